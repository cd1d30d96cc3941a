/**
 * A penny a lap: children who run round a field, sponsors who have promised so much a lap, and what follows.
 *
 * This class is the document's face: each call looks at what it was told and hands on. What is known and worked
 * out stands in the classes inside. Every row is made once, with the object, so that no call makes anything.
 */
public final class PennyALap {
    public static final int BAD = -1, NOT = -2, FULL = -3, STATE = -5, VOID = -2000000000;

    private static final int NOTHING_THERE = -11, ANOTHER_KIND = -12, NO_PLACE = -13, NO_SIZE = -14;

    private static final int CHILDREN = 6, SPONSORS = 16, SHELVES = 6;
    private static final int LAPS_MOST = 99, T_MOST = 999, MINUTES_MOST = 9999, PENCE_MOST = 99999;
    private static final int WEEKS = 60, TWELVE = 12, FIELD_MOST = 300, DRAWS_MOST = 30;

    /** What mend() and of() call the numbers. */
    private static final int PACE = 0, TIRES = 1, STOPS = 2, CUTS = 3, PER = 4, FLAT = 5, NEED = 6, TOP = 7,
        PURSE = 8, RAIN = 9, PROMPT = 10, REMINDED = 11, PRIZE = 12;
    private static final int[] LEAST = {1, 0, 0, 0, 0, 0, 0, 0, 0, 0, 0, 1, 0};
    private static final int[] MOST = {30, 9, 99, 12, 200, 999, 99, 9999, 9999, 9, 12, 4, 999};
    private static final int[] AT_FIRST = {1, 0, 99, 0, 0, 0, 10, 0, 9999, 0, 8, 2, 0};

    /** Sorts of rows; a shelf may hold a body or nothing instead. */
    private static final int BYTES = 0, SHORTS = 1, INTS = 2, LONGS = 3, BOOLEANS = 4, A_BODY = 5, NOTHING = 6;
    private static final int ROW_MOST = 60;

    private final Law law;
    private final Folk folk;
    private final Changes changes;
    private final Thought thought;
    private final Plan plan;
    private final Coming coming;
    private final Deed deed;
    private final Deed kept;
    private boolean isKept;
    private final Bodies bodies;
    private final Shelves shelves;

    public PennyALap() {
        law = new Law();
        folk = new Folk(law);
        changes = new Changes();
        thought = new Thought(folk);
        plan = new Plan(folk, thought);
        coming = new Coming(folk, thought);
        deed = new Deed();
        kept = new Deed();
        bodies = new Bodies();
        shelves = new Shelves();
    }

    private static boolean within(int v, int least, int most) {
        return v >= least && v <= most;
    }

    /** Whether a number such as 100 T and the weeks is made of two that are as said. */
    private static boolean isPair(int pair, int unit, int firstMost, int secondMost) {
        return pair >= 0 && unit > 0 && pair / unit <= firstMost && pair % unit <= secondMost;
    }

    // ---- children, sponsors

    public int child(int pace) {
        if (!within(pace, LEAST[PACE], MOST[PACE])) {
            return BAD;
        }
        return folk.childComes(pace);
    }

    public int sponsor(int child, int per) {
        if (!folk.maySponsor(child, per, 0)) {
            return BAD;
        }
        return folk.sponsorComes(child, per, 0);
    }

    public int sponsors(int shelf, int i, int n) {
        if (!shelves.isShelf(shelf) || !within(n, 1, SPONSORS)) {
            return BAD;
        }
        int refusal = shelves.refusal(shelf, SHORTS);
        if (refusal == ANOTHER_KIND) {
            return refusal;
        }
        return refusal == NOTHING_THERE || i < 0 ? 0 : sponsorsFromRow(shelf, i, n);
    }

    private int sponsorsFromRow(int shelf, int i, int n) {
        int size = shelves.size(shelf);
        int came = 0;
        while (came < n && i <= size - 3 * (came + 1)) {
            int at = i + 3 * came;
            int child = (int) shelves.value(shelf, at);
            int per = (int) shelves.value(shelf, at + 1);
            int flat = (int) shelves.value(shelf, at + 2);
            if (!folk.maySponsor(child, per, flat) || folk.sponsorComes(child, per, flat) < 0) {
                return came;
            }
            came++;
        }
        return came;
    }

    public int mend(int number, int what, int v) {
        int place = folk.place(number, what);
        if (place < 0 || !within(v, LEAST[what], MOST[what])) {
            return BAD;
        }
        int was = folk.at(place);
        if (v != was) {
            folk.become(place, v);
            changes.add(place, was, v);
        }
        return was;
    }

    public int of(int number, int what) {
        if (within(what, PACE, PRIZE)) {
            int place = folk.place(number, what);
            return place < 0 ? BAD : folk.at(place);
        }
        boolean isThere = what <= 14 ? folk.isSponsor(number) : folk.isChild(number);
        if (!isThere) {
            return BAD;
        }
        switch (what) {
            case 13: return folk.childOf(number);
            case 14: return deed.paidBy(number);
            case 15: return deed.lapsOf(number);
            case 16: return deed.minutesOf(number);
            default: return BAD;
        }
    }

    public int feed(int letter) {
        if (!within(letter, 0, 255)) {
            return BAD;
        }
        return law.takeByte(letter);
    }

    public int law() {
        int fault = law.takeTape();
        return fault < 0 ? 1 : -100 - fault;
    }

    public int lap(int child, int km) {
        if (!folk.isChild(child) || !isPair(km, 1000, LAPS_MOST, T_MOST)) {
            return BAD;
        }
        return folk.lapTakes(child, km / 1000, km % 1000);
    }

    // ---- in thought

    public int laps(int child, int t, int what) {
        if (child != -1 && !folk.isChild(child) || !within(t, 0, T_MOST) || !within(what, 0, 2)) {
            return BAD;
        }
        if (child == -1) {
            thought.think(t);
            return what == 0 ? thought.lapsOfAll() : what == 1 ? thought.owedByAll() : thought.paidByAll();
        }
        int laps = thought.lapsIn(child, t);
        return what == 0 ? laps : what == 1 ? folk.owedTo(child, laps) : folk.paidTo(child, laps);
    }

    public int minutes(int child, int laps) {
        if (!folk.isChild(child) || !within(laps, 0, LAPS_MOST)) {
            return BAD;
        }
        if (laps > folk.told(child, STOPS)) {
            return NOT;
        }
        int minutes = folk.minutesOfLaps(child, laps);
        return minutes > MINUTES_MOST ? NOT : minutes;
    }

    public int most(int t, int what) {
        if (!within(t, 0, T_MOST) || !within(what, 0, 2)) {
            return BAD;
        }
        thought.think(t);
        return what == 0 ? thought.surprised() : what == 1 ? thought.mostLaps() : thought.mostPence();
    }

    public int owes(int sponsor, int laps, int what) {
        if (!folk.isSponsor(sponsor) || !within(laps, 0, LAPS_MOST) || !within(what, 0, 1)) {
            return BAD;
        }
        return what == 0 ? folk.owedBy(sponsor, laps) : folk.paidBy(sponsor, laps);
    }

    public int more(int child, int laps) {
        if (!folk.isChild(child) || !within(laps, 0, LAPS_MOST - 1)) {
            return BAD;
        }
        return folk.paidTo(child, laps + 1) - folk.paidTo(child, laps);
    }

    public int done(int child) {
        if (!folk.isChild(child)) {
            return BAD;
        }
        int laps = LAPS_MOST;
        while (laps > 0 && folk.paidTo(child, laps - 1) == folk.paidTo(child, laps)) {
            laps--;
        }
        return laps;
    }

    public int lapOrSum(int sponsor, int v) {
        if (!folk.isSponsor(sponsor) || !within(v, 0, 9999)) {
            return BAD;
        }
        for (int laps = 0; laps <= LAPS_MOST; laps++) {
            if (folk.owedBy(sponsor, laps) >= v) {
                return laps;
            }
        }
        return NOT;
    }

    public int top(int sponsor) {
        if (!folk.isSponsor(sponsor)) {
            return BAD;
        }
        int purse = folk.told(sponsor, PURSE);
        // no lap ever lowers what is owed, so the most is owed by the last one
        return folk.owedWithoutTop(sponsor, LAPS_MOST) <= purse ? 0 : Math.max(1, purse);
    }

    public int howLong(int v) {
        if (!within(v, 0, PENCE_MOST)) {
            return BAD;
        }
        thought.beginMinutes(T_MOST);
        for (int t = 0; t <= T_MOST; t++) {
            if (thought.goOnTo(t) && thought.paidByAll() >= v) {
                return t;
            }
        }
        return NOT;
    }

    public int field(int m, int child) {
        if (!within(m, 0, FIELD_MOST) || child != -1 && child != -2 && !folk.isChild(child)) {
            return BAD;
        }
        plan.make(m);
        return child == -1 ? plan.pence() : child == -2 ? plan.minutesUsed() : plan.lapsOf(child);
    }

    // ---- coming in, sheets

    public int comes(int shelf, int tw) {
        if (!shelves.isShelf(shelf) || !isPair(tw, 100, T_MOST, WEEKS)) {
            return BAD;
        }
        int refusal = shelves.refusal(shelf, BYTES);
        if (refusal != 0) {
            return refusal;
        }
        readReminders(shelf, tw / 100);
        return coming.cameBy(tw % 100, -1);
    }

    public int by(int shelf, int tx) {
        if (!shelves.isShelf(shelf) || !isPair(tx, 100, T_MOST, TWELVE)) {
            return BAD;
        }
        int refusal = shelves.refusal(shelf, BYTES);
        if (refusal != 0) {
            return refusal;
        }
        readReminders(shelf, tx / 100);
        return coming.weeksTill(tx % 100);
    }

    public int remind(int shelf, int tw, int what) {
        if (!shelves.isShelf(shelf) || !isPair(tw, 100, T_MOST, WEEKS) || !within(what, 0, 1)) {
            return BAD;
        }
        int refusal = shelves.refusal(shelf, BYTES);
        if (refusal != 0) {
            return refusal;
        }
        int weeks = tw % 100;
        if (weeks == 0) {
            return NOT;
        }
        readReminders(shelf, tw / 100);
        int week = coming.bestWeek(weeks);
        return what == 0 ? week : coming.cameBy(weeks, week);
    }

    private void readReminders(int shelf, int t) {
        thought.think(t);
        coming.begin();
        for (int i = 0; i < shelves.size(shelf); i++) {
            coming.remindIn((int) shelves.value(shelf, i));
        }
    }

    public int judge(int shelf, int t) {
        if (!shelves.isShelf(shelf) || !within(t, 0, T_MOST)) {
            return BAD;
        }
        int refusal = shelves.refusal(shelf, SHORTS);
        if (refusal != 0) {
            return refusal;
        }
        thought.think(t);
        return firstAmiss(shelf);
    }

    /** The first two of a sheet that is not so by the laps now thought of. */
    private int firstAmiss(int shelf) {
        int size = shelves.size(shelf);
        for (int i = 0; i < size; i += 2) {
            int child = (int) shelves.value(shelf, i);
            if (i + 1 >= size || !folk.isChild(child)) {
                return i / 2;
            }
            if (folk.paidTo(child, thought.lapsNow(child)) != shelves.value(shelf, i + 1)) {
                return i / 2;
            }
        }
        return NOT;
    }

    public int lapsFor(int child, int v, int what) {
        if (!folk.isChild(child) || !within(v, 0, PENCE_MOST) || !within(what, 0, 1)) {
            return BAD;
        }
        int many = 0;
        for (int laps = 0; laps <= LAPS_MOST; laps++) {
            if (folk.paidTo(child, laps) == v) {
                if (what == 1) {
                    return laps;
                }
                many++;
            }
        }
        return what == 1 ? NOT : many;
    }

    public int minutesFor(int shelf) {
        if (!shelves.isShelf(shelf)) {
            return BAD;
        }
        int refusal = shelves.refusal(shelf, SHORTS);
        if (refusal != 0) {
            return refusal;
        }
        thought.beginMinutes(T_MOST);
        for (int t = 0; t <= T_MOST; t++) {
            if (thought.goOnTo(t) && firstAmiss(shelf) == NOT) {
                return t;
            }
        }
        return NOT;
    }

    public int whose(int child, int t, int v) {
        if (!folk.isChild(child) || !within(t, 0, T_MOST) || !within(v, 0, PENCE_MOST)) {
            return BAD;
        }
        int laps = thought.lapsIn(child, t);
        int paid = folk.paidTo(child, laps);
        for (int per = 0; per <= MOST[PER]; per++) {
            if (paid + Math.min(per * laps, AT_FIRST[PURSE]) == v) {
                return per;
            }
        }
        return NOT;
    }

    public int oak(int shelf, int t, int child) {
        if (!shelves.isShelf(shelf) || !within(t, 0, T_MOST) || child != -1 && !folk.isChild(child)) {
            return BAD;
        }
        int refusal = shelves.refusal(shelf, BYTES);
        if (refusal != 0) {
            return refusal;
        }
        if (child != -1) {
            return cheats(shelf, t, child) ? t - folk.minutesOfLaps(child, lapsSaid(shelf, child)) : 0;
        }
        int bits = 0;
        for (int c = 0; c < folk.childCount(); c++) {
            bits |= cheats(shelf, t, c) ? 1 << c : 0;
        }
        return bits;
    }

    private boolean cheats(int shelf, int t, int child) {
        return lapsSaid(shelf, child) > thought.lapsIn(child, t);
    }

    /** Saying nothing is as good as saying 0: everybody can have done that. */
    private int lapsSaid(int shelf, int child) {
        return child < shelves.size(shelf) ? Math.max(0, (int) shelves.value(shelf, child)) : 0;
    }

    public int drawn(int seed, int nt, int what) {
        if (!isPair(nt, 1000, DRAWS_MOST, T_MOST) || nt < 1000 || !within(what, 0, 1)) {
            return BAD;
        }
        int z = seed;
        int sum = 0;
        for (int i = 0; i < nt / 1000; i++) {
            z = thought.drawField(z, nt % 1000);
            sum += what == 0 ? thought.lapsOfAll() : thought.paidByAll();
        }
        return sum;
    }

    // ---- in deed

    public int run(int child) {
        if (!folk.isChild(child)) {
            return BAD;
        }
        int laps = deed.lapsOf(child);
        int minutes = deed.minutesOf(child);
        if (laps >= folk.told(child, STOPS)) {
            return STATE;
        }
        int then = minutes + folk.lapTakes(child, laps, minutes);
        if (then > MINUTES_MOST) {
            return STATE;
        }
        deed.lapRun(child, then);
        return then;
    }

    public int ask(int sponsor) {
        if (!folk.isSponsor(sponsor)) {
            return BAD;
        }
        int laps = deed.lapsOf(folk.childOf(sponsor));
        int pays = Math.max(0, folk.paidBy(sponsor, laps) - deed.paidBy(sponsor));
        deed.asked(sponsor, pays, folk.isSurprised(sponsor, laps));
        return pays;
    }

    public int anew() {
        int laps = deed.lapsOfField();
        deed.newField();
        return laps;
    }

    public int led(int what) {
        switch (what) {
            case 0: return deed.ledLaps();
            case 1: return deed.ledPence();
            case 2: return deed.fields();
            case 3: return deed.ledMinutes();
            case 4: return deed.surprises();
            default: return BAD;
        }
    }

    public int image() {
        kept.becomeLike(deed);
        isKept = true;
        return deed.ledLaps();
    }

    public int back() {
        if (!isKept) {
            return STATE;
        }
        deed.becomeLike(kept);
        return deed.ledLaps();
    }

    public int undo() {
        return changes.undoOne(folk);
    }

    public int redo() {
        return changes.redoOne(folk);
    }

    // ---- acts, shelves

    public int body(int kind) {
        if (!bodies.isKind(kind)) {
            return BAD;
        }
        return bodies.bodyComes(kind);
    }

    public int act(int body, int act, int x) {
        return bodies.begin(body, act, x);
    }

    public int trace(int i) {
        return bodies.traced(i);
    }

    public int keep(int shelf, int body) {
        if (!shelves.isShelf(shelf) || body != -1 && !bodies.isBody(body)) {
            return BAD;
        }
        shelves.hold(shelf, body);
        return 1;
    }

    public int row(int shelf, int sort, int n) {
        if (!shelves.isShelf(shelf) || !within(sort, BYTES, BOOLEANS) || n > ROW_MOST) {
            return BAD;
        }
        if (n < 0) {
            return NO_SIZE;
        }
        shelves.holdRow(shelf, sort, n);
        return 1;
    }

    public int put(int shelf, int i, long v) {
        int refusal = shelves.placeRefusal(shelf, i);
        if (refusal != 0) {
            return refusal;
        }
        shelves.become(shelf, i, v);
        return 1;
    }

    public long element(int shelf, int i) {
        return shelves.placeRefusal(shelf, i) != 0 ? Long.MIN_VALUE : shelves.value(shelf, i);
    }

    public int shift(int shelf, int i, int other, int j, int n) {
        if (!shelves.isShelf(shelf) || !shelves.isShelf(other)) {
            return BAD;
        }
        if (shelves.isEmpty(shelf) || shelves.isEmpty(other)) {
            return NOTHING_THERE;
        }
        if (!shelves.isRow(shelf) || !shelves.isRow(other) || !shelves.areAlike(shelf, other)) {
            return ANOTHER_KIND;
        }
        if (!shelves.hasPart(shelf, i, n) || !shelves.hasPart(other, j, n)) {
            return NO_PLACE;
        }
        shelves.copyPart(shelf, i, other, j, n);
        return n;
    }

    public int taken(int shelf, int k) {
        if (!shelves.isShelf(shelf) || !bodies.isKind(k)) {
            return BAD;
        }
        int refusal = shelves.refusal(shelf, A_BODY);
        if (refusal != 0) {
            return refusal;
        }
        int kind = bodies.kindOf(shelves.bodyOn(shelf));
        return bodies.isUnder(kind, k) ? kind : ANOTHER_KIND;
    }

    public int count(int what) {
        switch (what) {
            case 0: return folk.childCount();
            case 1: return folk.sponsorCount();
            case 2: return law.fed();
            case 3: return changes.undoable();
            case 4: return bodies.bodies();
            case 5: return bodies.ran();
            default: return BAD;
        }
    }

    /**
     * The tape, and the law that was read from it: steps for a stack, so that a law is read once and not at each lap.
     * A step that is not below 0 is a number, -1 to -6 are names; all others are a sign with a minus ahead.
     */
    private static final class Law {
        private static final int TAPE_MOST = 120, OPEN_MOST = 6, DIGITS_MOST = 4;
        private static final int COMPARING = 2, OPERAND = 5;
        private static final int NEGATE = 'n';
        private static final int NAMES = 6, LAPS_AHEAD = 2, MINUTES_AHEAD = 3;

        private final int[] tape = new int[TAPE_MOST];
        private int fed;
        private int at;
        /** Each step has a byte of its own, but for the end of the last line. */
        private int[] steps = new int[TAPE_MOST + 1];
        private int stepCount;
        private int[] draft = new int[TAPE_MOST + 1];
        private int draftCount;
        private final int[] stack = new int[TAPE_MOST + 1];
        /** What p, t, k, m, r, c stand for. */
        private final int[] names = new int[NAMES];

        int fed() {
            return fed;
        }

        int takeByte(int letter) {
            if (fed >= TAPE_MOST) {
                return FULL;
            }
            tape[fed] = letter;
            fed++;
            return fed;
        }

        /** The fault, or -1 and the tape is the law; a law with a fault leaves the one ahead of it. */
        int takeTape() {
            int fault = readLines();
            fed = 0;
            if (fault < 0) {
                int[] old = steps;
                steps = draft;
                stepCount = draftCount;
                draft = old;
            }
            return fault;
        }

        private int readLines() {
            at = 0;
            draftCount = 0;
            for (int line = 0; line <= TAPE_MOST; line++) {
                if (!readLine()) {
                    return at;
                }
                if (at >= fed) {
                    return -1;
                }
                if (tape[at] != ';') {
                    return at;
                }
                at++;
            }
            return at;
        }

        private boolean readLine() {
            if (!readJoined(0, 0)) {
                return false;
            }
            if (sign() != '?') {
                write(-';');
                return true;
            }
            at++;
            if (!readJoined(0, 0)) {
                return false;
            }
            write(-'?');
            return true;
        }

        /** E, A, B, S and P are all parts of the next level joined by its signs; at level 5 stands O. */
        private boolean readJoined(int level, int open) {
            if (level >= OPERAND) {
                return readOperand(open);
            }
            if (!readJoined(level + 1, open)) {
                return false;
            }
            int joins = level == COMPARING ? 1 : TAPE_MOST;
            for (int i = 0; i < joins && levelOf(sign()) == level; i++) {
                int join = sign();
                at++;
                if (!readJoined(level + 1, open)) {
                    return false;
                }
                write(-join);
            }
            return true;
        }

        private boolean readOperand(int open) {
            int sign = sign();
            if (isDigit(sign)) {
                readNumber();
                return true;
            }
            int name = nameOf(sign);
            if (name >= 0) {
                at++;
                write(-1 - name);
                return true;
            }
            if (sign != '(' && sign != '!' && sign != '-' || open >= OPEN_MOST) {
                return false;
            }
            at++;
            if (sign == '(') {
                return readJoined(0, open + 1) && readClosing();
            }
            if (!readOperand(open + 1)) {
                return false;
            }
            write(sign == '!' ? -'!' : -NEGATE);
            return true;
        }

        private boolean readClosing() {
            boolean closes = sign() == ')';
            at += closes ? 1 : 0;
            return closes;
        }

        private void readNumber() {
            int number = 0;
            for (int i = 0; i < DIGITS_MOST && isDigit(sign()); i++) {
                number = number * 10 + sign() - '0';
                at++;
            }
            write(number);
        }

        /** The byte that is next on the tape; -1 at its end, which no text has. */
        private int sign() {
            return at < fed && at < TAPE_MOST ? tape[at] : -1;
        }

        private void write(int step) {
            if (draftCount < draft.length) {
                draft[draftCount] = step;
                draftCount++;
            }
        }

        private static boolean isDigit(int sign) {
            return sign >= '0' && sign <= '9';
        }

        private static int nameOf(int sign) {
            switch (sign) {
                case 'p': return 0;
                case 't': return 1;
                case 'k': return LAPS_AHEAD;
                case 'm': return MINUTES_AHEAD;
                case 'r': return 4;
                case 'c': return 5;
                default: return -1;
            }
        }

        private static int levelOf(int sign) {
            switch (sign) {
                case '|': return 0;
                case '&': return 1;
                case '<': case '=': case '>': return COMPARING;
                case '+': case '-': return 3;
                case '*': case '/': case '%': return 4;
                default: return -1;
            }
        }

        boolean isThere() {
            return stepCount > 0;
        }

        void ofChild(int child, int pace, int tires, int rain) {
            names[0] = pace;
            names[1] = tires;
            names[4] = rain;
            names[5] = child;
        }

        /** What the law gives behind so many laps and minutes of the child that was told last. */
        int gives(int laps, int minutes) {
            names[LAPS_AHEAD] = laps;
            names[MINUTES_AHEAD] = minutes;
            int height = 0;
            for (int i = 0; i < stepCount; i++) {
                int step = steps[i];
                if (step >= -NAMES && height < stack.length) {
                    stack[height] = step >= 0 ? step : names[-1 - step];
                    height++;
                } else if (height < 1) {
                    return 0;
                } else if (step == -';') {
                    return stack[height - 1];
                } else if (step == -'!' || step == -NEGATE) {
                    stack[height - 1] = turned(-step, stack[height - 1]);
                } else if (height < 2) {
                    return 0;
                } else if (step == -'?') {
                    if (stack[height - 2] != 0) {
                        return stack[height - 1];
                    }
                    height -= 2;
                } else {
                    height--;
                    stack[height - 1] = joined(-step, stack[height - 1], stack[height]);
                }
            }
            return 0;
        }

        private static int turned(int sign, int a) {
            return sign == '!' ? truth(a == 0) : -a;
        }

        private static int joined(int sign, int a, int b) {
            switch (sign) {
                case '|': return truth(a != 0 || b != 0);
                case '&': return truth(a != 0 && b != 0);
                case '<': return truth(a < b);
                case '=': return truth(a == b);
                case '>': return truth(a > b);
                case '+': return a + b;
                case '-': return a - b;
                case '*': return a * b;
                case '/': return b == 0 ? 0 : a / b;
                case '%': return b == 0 ? 0 : a % b;
                default: return 0;
            }
        }

        private static int truth(boolean is) {
            return is ? 1 : 0;
        }
    }

    /** Who is there, and what each has promised. All numbers of mend() stand in one row: a change is a place in it. */
    private static final class Folk {
        private static final int OF_A_CHILD = 4, OF_A_SPONSOR = 5;
        private static final int SPONSORS_FROM = CHILDREN * OF_A_CHILD;
        private static final int OTHERS_FROM = SPONSORS_FROM + SPONSORS * OF_A_SPONSOR;
        private static final int LAP_LEAST = 1, LAP_MOST = 99;

        private final Law law;
        private final int[] numbers = new int[OTHERS_FROM + PRIZE - RAIN + 1];
        private final int[] childOf = new int[SPONSORS];
        private int children;
        private int sponsors;

        Folk(Law law) {
            this.law = law;
            for (int what = RAIN; what <= PRIZE; what++) {
                numbers[OTHERS_FROM + what - RAIN] = AT_FIRST[what];
            }
        }

        int childCount() {
            return children;
        }

        int sponsorCount() {
            return sponsors;
        }

        boolean isChild(int number) {
            return number >= 0 && number < children;
        }

        boolean isSponsor(int number) {
            return number >= 0 && number < sponsors;
        }

        int childOf(int sponsor) {
            return isSponsor(sponsor) ? childOf[sponsor] : -1;
        }

        /** Where a number of mend() stands; -1: there is none such. */
        int place(int number, int what) {
            if (number < 0 || what < PACE || what > PRIZE) {
                return -1;
            }
            if (what <= CUTS) {
                return number < children ? number * OF_A_CHILD + what : -1;
            }
            if (what <= PURSE) {
                return number < sponsors ? SPONSORS_FROM + number * OF_A_SPONSOR + what - PER : -1;
            }
            return number == 0 ? OTHERS_FROM + what - RAIN : -1;
        }

        int at(int place) {
            return place >= 0 && place < numbers.length ? numbers[place] : 0;
        }

        void become(int place, int v) {
            if (place >= 0 && place < numbers.length) {
                numbers[place] = v;
            }
        }

        /** For those who know that there is such a number. */
        int told(int number, int what) {
            return at(place(number, what));
        }

        int childComes(int pace) {
            if (children >= CHILDREN) {
                return FULL;
            }
            int number = children;
            children++;
            for (int what = PACE; what <= CUTS; what++) {
                become(place(number, what), what == PACE ? pace : AT_FIRST[what]);
            }
            return number;
        }

        boolean maySponsor(int child, int per, int flat) {
            return isChild(child) && within(per, LEAST[PER], MOST[PER]) && within(flat, LEAST[FLAT], MOST[FLAT]);
        }

        int sponsorComes(int child, int per, int flat) {
            if (sponsors >= SPONSORS) {
                return FULL;
            }
            int number = sponsors;
            sponsors++;
            childOf[number] = child;
            for (int what = PER; what <= PURSE; what++) {
                become(place(number, what), what == PER ? per : what == FLAT ? flat : AT_FIRST[what]);
            }
            return number;
        }

        int lapTakes(int child, int laps, int minutes) {
            int pace = told(child, PACE);
            int tires = told(child, TIRES);
            int rain = told(0, RAIN);
            int takes = pace + tires * laps / 4 + rain;
            if (law.isThere()) {
                law.ofChild(child, pace, tires, rain);
                takes = law.gives(laps, minutes);
            }
            return Math.max(LAP_LEAST, Math.min(LAP_MOST, takes));
        }

        /** Without a look at STOPS. */
        int minutesOfLaps(int child, int laps) {
            int minutes = 0;
            for (int k = 0; k < laps; k++) {
                minutes += lapTakes(child, k, minutes);
            }
            return minutes;
        }

        int owedWithoutTop(int sponsor, int laps) {
            int from = place(sponsor, PER);
            if (from < 0) {
                return 0;
            }
            int flat = laps >= numbers[from + NEED - PER] ? numbers[from + FLAT - PER] : 0;
            return numbers[from] * laps + flat;
        }

        int owedBy(int sponsor, int laps) {
            int owed = owedWithoutTop(sponsor, laps);
            int top = told(sponsor, TOP);
            return top > 0 ? Math.min(owed, top) : owed;
        }

        int paidBy(int sponsor, int laps) {
            return Math.min(owedBy(sponsor, laps), told(sponsor, PURSE));
        }

        boolean isSurprised(int sponsor, int laps) {
            return owedBy(sponsor, laps) > told(sponsor, PURSE);
        }

        int owedTo(int child, int laps) {
            int owed = 0;
            for (int s = 0; s < sponsors; s++) {
                owed += childOf[s] == child ? owedBy(s, laps) : 0;
            }
            return owed;
        }

        int paidTo(int child, int laps) {
            int paid = 0;
            for (int s = 0; s < sponsors; s++) {
                paid += childOf[s] == child ? paidBy(s, laps) : 0;
            }
            return paid;
        }
    }

    /** Numbers that were changed: the first "made" of them can be undone, those behind be done again. */
    private static final class Changes {
        private static final int KEPT_MOST = 40;

        private final int[] places = new int[KEPT_MOST];
        private final int[] before = new int[KEPT_MOST];
        private final int[] behind = new int[KEPT_MOST];
        private int made;
        private int known;

        int undoable() {
            return made;
        }

        void add(int place, int was, int is) {
            if (made >= KEPT_MOST) {
                forgetOldest();
            }
            places[made] = place;
            before[made] = was;
            behind[made] = is;
            made++;
            known = made;
        }

        private void forgetOldest() {
            System.arraycopy(places, 1, places, 0, KEPT_MOST - 1);
            System.arraycopy(before, 1, before, 0, KEPT_MOST - 1);
            System.arraycopy(behind, 1, behind, 0, KEPT_MOST - 1);
            made = KEPT_MOST - 1;
        }

        int undoOne(Folk folk) {
            if (made <= 0) {
                return STATE;
            }
            made--;
            folk.become(places[made], before[made]);
            return made;
        }

        int redoOne(Folk folk) {
            if (made >= known || made >= KEPT_MOST) {
                return STATE;
            }
            folk.become(places[made], behind[made]);
            made++;
            return known - made;
        }
    }

    /** A field that is only thought of: the laps each child has by some minute, and what follows from them. */
    private static final class Thought {
        static final int ENDS = LAPS_MOST + 1;

        private final Folk folk;
        private final int[] now = new int[CHILDREN];
        /** By child: the minute in which the k-th lap is over, and how many laps are over in time. */
        final int[] ends = new int[CHILDREN * ENDS];
        private final int[] reach = new int[CHILDREN];

        Thought(Folk folk) {
            this.folk = folk;
        }

        int lapsIn(int child, int t) {
            int stops = folk.told(child, STOPS);
            int minutes = 0;
            for (int k = 0; k < stops; k++) {
                minutes += folk.lapTakes(child, k, minutes);
                if (minutes > t) {
                    return k;
                }
            }
            return stops;
        }

        void think(int t) {
            for (int c = 0; c < folk.childCount(); c++) {
                now[c] = lapsIn(c, t);
            }
        }

        int lapsNow(int child) {
            return folk.isChild(child) ? now[child] : 0;
        }

        /** Works out each lap's end once, for those who look at many minutes. */
        void timeLaps(int limit) {
            for (int c = 0; c < folk.childCount(); c++) {
                int stops = Math.min(folk.told(c, STOPS), LAPS_MOST);
                reach[c] = 0;
                ends[c * ENDS] = 0;
                for (int k = 0; k < stops; k++) {
                    int ahead = ends[c * ENDS + k];
                    int end = ahead + folk.lapTakes(c, k, ahead);
                    if (end > limit) {
                        break;
                    }
                    ends[c * ENDS + k + 1] = end;
                    reach[c] = k + 1;
                }
            }
        }

        int reachOf(int child) {
            return folk.isChild(child) ? reach[child] : 0;
        }

        int endOf(int child, int laps) {
            return folk.isChild(child) && within(laps, 0, LAPS_MOST) ? ends[child * ENDS + laps] : 0;
        }

        void beginMinutes(int limit) {
            timeLaps(limit);
            for (int c = 0; c < CHILDREN; c++) {
                now[c] = 0;
            }
        }

        /** Minute t has come, t - 1 was the latest: whether anything is new. */
        boolean goOnTo(int t) {
            boolean isNew = t == 0;
            for (int c = 0; c < folk.childCount(); c++) {
                // a lap takes a minute at least, so no more than one is over with each minute
                if (now[c] < reach[c] && endOf(c, now[c] + 1) <= t) {
                    now[c]++;
                    isNew = true;
                }
            }
            return isNew;
        }

        /** A field by draws: the draw it ends with. */
        int drawField(int seed, int t) {
            int z = seed;
            for (int c = 0; c < folk.childCount(); c++) {
                z = drawLaps(c, z, t);
            }
            return z;
        }

        private int drawLaps(int child, int seed, int t) {
            int z = seed;
            int stops = folk.told(child, STOPS);
            int cuts = folk.told(child, CUTS);
            int minutes = 0;
            now[child] = 0;
            for (int k = 0; k < stops; k++) {
                z = z * 1103515245 + 12345;
                int takes = folk.lapTakes(child, k, minutes);
                minutes += (z >>> 8) % 12 < cuts ? Math.max(1, takes / 2) : takes;
                if (minutes > t) {
                    break;
                }
                now[child] = k + 1;
            }
            return z;
        }

        int lapsOfAll() {
            int laps = 0;
            for (int c = 0; c < folk.childCount(); c++) {
                laps += now[c];
            }
            return laps;
        }

        int owedByAll() {
            int owed = 0;
            for (int c = 0; c < folk.childCount(); c++) {
                owed += folk.owedTo(c, now[c]);
            }
            return owed;
        }

        int paidByAll() {
            int paid = mostLaps() == NOT ? 0 : -folk.told(0, PRIZE);
            for (int c = 0; c < folk.childCount(); c++) {
                paid += folk.paidTo(c, now[c]);
            }
            return paid;
        }

        int surprised() {
            int bits = 0;
            for (int s = 0; s < folk.sponsorCount(); s++) {
                bits |= folk.isSurprised(s, lapsNow(folk.childOf(s))) ? 1 << s : 0;
            }
            return bits;
        }

        int mostLaps() {
            int whose = NOT;
            int most = 0;
            for (int c = 0; c < folk.childCount(); c++) {
                if (now[c] > most) {
                    most = now[c];
                    whose = c;
                }
            }
            return whose;
        }

        int mostPence() {
            int whose = NOT;
            int most = -1;
            for (int c = 0; c < folk.childCount(); c++) {
                int paid = folk.paidTo(c, now[c]);
                if (paid > most) {
                    most = paid;
                    whose = c;
                }
            }
            return whose;
        }
    }

    /** Who should run how long while the field is free. */
    private static final class Plan {
        private static final int MINUTES = FIELD_MOST + 1, LAPS = Thought.ENDS;
        /** A penny outweighs all minutes there are, so that pence and minutes can be weighed as one number. */
        private static final int PENNY = 512;

        private final Folk folk;
        private final Thought thought;
        /** By child and laps: what they are worth, pence for and minutes against them. */
        private final int[] worth = new int[CHILDREN * LAPS];
        /** By child and minutes: the most that it and those behind it can be worth; behind the last stay zeros. */
        private final int[] best = new int[(CHILDREN + 1) * MINUTES];
        private final int[] chosen = new int[CHILDREN];

        Plan(Folk folk, Thought thought) {
            this.folk = folk;
            this.thought = thought;
        }

        void make(int m) {
            thought.timeLaps(m);
            for (int c = folk.childCount() - 1; c >= 0; c--) {
                weigh(c);
                // ahead of child 0 nobody uses the field, so only one count of minutes is asked for
                for (int left = c == 0 ? m : 0; left <= m; left++) {
                    best[c * MINUTES + left] = bestOf(c, left);
                }
            }
            choose(m);
        }

        private void weigh(int child) {
            for (int k = 0; k <= thought.reachOf(child); k++) {
                worth[child * LAPS + k] = folk.paidTo(child, k) * PENNY - thought.endOf(child, k);
            }
        }

        /** Nothing is looked at more often than the laps here, so rows are read without a call. */
        private int bestOf(int child, int left) {
            int[] ends = thought.ends;
            int reach = thought.reachOf(child);
            int laps = child * LAPS;
            int behind = (child + 1) * MINUTES + left;
            int most = worth[laps] + best[behind];
            for (int k = 1; k <= reach && ends[laps + k] <= left; k++) {
                most = Math.max(most, worth[laps + k] + best[behind - ends[laps + k]]);
            }
            return most;
        }

        private int worthWith(int child, int laps, int left) {
            int rest = left - thought.endOf(child, laps);
            return worth[child * LAPS + laps] + (rest >= 0 ? best[(child + 1) * MINUTES + rest] : 0);
        }

        /** The fewest laps that still reach the best, child by child: so the first by laps of like ones. */
        private void choose(int m) {
            int left = m;
            for (int c = 0; c < folk.childCount(); c++) {
                int k = 0;
                while (k < thought.reachOf(c) && worthWith(c, k, left) != best[c * MINUTES + left]) {
                    k++;
                }
                chosen[c] = k;
                left = Math.max(0, left - thought.endOf(c, k));
            }
        }

        int lapsOf(int child) {
            return folk.isChild(child) ? chosen[child] : 0;
        }

        int pence() {
            int pence = 0;
            for (int c = 0; c < folk.childCount(); c++) {
                pence += folk.paidTo(c, chosen[c]);
            }
            return pence;
        }

        int minutesUsed() {
            int minutes = 0;
            for (int c = 0; c < folk.childCount(); c++) {
                minutes += thought.endOf(c, chosen[c]);
            }
            return minutes;
        }
    }

    /** What comes in week by week. */
    private static final class Coming {
        private final Folk folk;
        private final Thought thought;
        private final int[] due = new int[SPONSORS];
        private final int[] left = new int[SPONSORS];
        private final boolean[] reminded = new boolean[WEEKS];

        Coming(Folk folk, Thought thought) {
            this.folk = folk;
            this.thought = thought;
        }

        /** All is due by the laps now thought of, and nobody is reminded yet. */
        void begin() {
            for (int s = 0; s < folk.sponsorCount(); s++) {
                due[s] = folk.paidBy(s, thought.lapsNow(folk.childOf(s)));
            }
            for (int week = 0; week < WEEKS; week++) {
                reminded[week] = false;
            }
        }

        void remindIn(int week) {
            if (week >= 0 && week < WEEKS) {
                reminded[week] = true;
            }
        }

        /** What has come by so many weeks, with a reminder in one week more (-1: in none). */
        int cameBy(int weeks, int extra) {
            startWeeks();
            int came = 0;
            for (int week = 0; week < weeks && week < WEEKS; week++) {
                came += comesIn(reminded[week] || week == extra);
            }
            return came;
        }

        private void startWeeks() {
            for (int s = 0; s < folk.sponsorCount(); s++) {
                left[s] = due[s];
            }
        }

        private int comesIn(boolean isReminded) {
            int prompt = folk.told(0, PROMPT);
            int times = isReminded ? folk.told(0, REMINDED) : 1;
            int came = 0;
            for (int s = 0; s < folk.sponsorCount(); s++) {
                // where nothing is left the penny at least is cut down to nothing too
                int pence = Math.min(left[s], times * Math.max(1, left[s] * prompt / TWELVE));
                left[s] -= pence;
                came += pence;
            }
            return came;
        }

        int weeksTill(int twelfths) {
            startWeeks();
            int all = 0;
            for (int s = 0; s < folk.sponsorCount(); s++) {
                all += due[s];
            }
            int came = 0;
            for (int week = 0; week <= WEEKS; week++) {
                if (came * TWELVE >= all * twelfths) {
                    return week;
                }
                came += week < WEEKS ? comesIn(reminded[week]) : 0;
            }
            return NOT;
        }

        int bestWeek(int weeks) {
            int best = 0;
            int most = -1;
            for (int week = 0; week < weeks; week++) {
                int came = cameBy(weeks, week);
                if (came > most) {
                    most = came;
                    best = week;
                }
            }
            return best;
        }
    }

    /**
     * A field in deed and what is led, or the image of both. The rows are of the field there is; what is led is
     * kept beside them, as it stays when a new field takes them.
     */
    private static final class Deed {
        private final int[] laps = new int[CHILDREN];
        private final int[] minutes = new int[CHILDREN];
        private final int[] paid = new int[SPONSORS];
        private int ledLaps;
        private int ledPence;
        private int ledMinutes;
        private int fields;
        private int surprises;

        int lapsOf(int child) {
            return child >= 0 && child < CHILDREN ? laps[child] : 0;
        }

        int minutesOf(int child) {
            return child >= 0 && child < CHILDREN ? minutes[child] : 0;
        }

        int paidBy(int sponsor) {
            return sponsor >= 0 && sponsor < SPONSORS ? paid[sponsor] : 0;
        }

        int ledLaps() {
            return ledLaps;
        }

        int ledPence() {
            return ledPence;
        }

        int ledMinutes() {
            return ledMinutes;
        }

        int fields() {
            return fields;
        }

        int surprises() {
            return surprises;
        }

        int lapsOfField() {
            int sum = 0;
            for (int v : laps) {
                sum += v;
            }
            return sum;
        }

        void lapRun(int child, int minutesThen) {
            if (child >= 0 && child < CHILDREN) {
                ledLaps++;
                ledMinutes += minutesThen - minutes[child];
                laps[child]++;
                minutes[child] = minutesThen;
            }
        }

        void asked(int sponsor, int pays, boolean isSurprised) {
            if (sponsor >= 0 && sponsor < SPONSORS) {
                paid[sponsor] += pays;
                ledPence += pays;
                surprises += isSurprised ? 1 : 0;
            }
        }

        void newField() {
            for (int c = 0; c < CHILDREN; c++) {
                laps[c] = 0;
                minutes[c] = 0;
            }
            for (int s = 0; s < SPONSORS; s++) {
                paid[s] = 0;
            }
            fields++;
        }

        /** Those who came behind an image have nothing in it, as it copies whole rows. */
        void becomeLike(Deed other) {
            System.arraycopy(other.laps, 0, laps, 0, CHILDREN);
            System.arraycopy(other.minutes, 0, minutes, 0, CHILDREN);
            System.arraycopy(other.paid, 0, paid, 0, SPONSORS);
            ledLaps = other.ledLaps;
            ledPence = other.ledPence;
            ledMinutes = other.ledMinutes;
            fields = other.fields;
            surprises = other.surprises;
        }
    }

    /** Bodies of kinds, and their acts, which come from the kind itself or from above. */
    private static final class Bodies {
        private static final int BODIES_MOST = 50, KINDS = 8, ACTS = 4, TRACE_MOST = 24, DEPTH_MOST = 40;
        private static final int RUNS = 0, OWES = 1, PAYS = 2, TELLS = 3;
        private static final int PENNY = 1, SUM = 2, OAK = 3, UNCLE = 4, RAINS = 5, PRIZES = 6, SHEET = 7;
        /** By kind: the kind above it; -1: it has none. */
        private static final int[] ABOVE = {-1, 0, 0, 2, 1, 3, 0, 6};
        /** By kind and act: the number of the body that the kind has for it; 0: it has none. */
        private static final int[] BODY_FOR = {
            1, 10, 11, 2,
            20, 0, 0, 0,
            0, 30, 0, 0,
            0, 41, 40, 0,
            0, 0, 0, 50,
            0, 0, 60, 61,
            70, 0, 0, 0,
            81, 80, 0, 0,
        };

        private final int[] kinds = new int[BODIES_MOST];
        private int bodies;
        private final int[] trace = new int[TRACE_MOST];
        private int ran;

        int bodies() {
            return bodies;
        }

        int ran() {
            return ran;
        }

        boolean isKind(int kind) {
            return kind >= 0 && kind < KINDS;
        }

        boolean isBody(int number) {
            return number >= 0 && number < bodies;
        }

        int kindOf(int number) {
            return isBody(number) ? kinds[number] : -1;
        }

        int bodyComes(int kind) {
            if (bodies >= BODIES_MOST) {
                return FULL;
            }
            kinds[bodies] = kind;
            bodies++;
            return bodies - 1;
        }

        boolean isUnder(int kind, int above) {
            int k = kind;
            for (int i = 0; i < KINDS && isKind(k) && k != above; i++) {
                k = ABOVE[k];
            }
            return k == above;
        }

        int traced(int i) {
            return i >= 0 && i < ran && i < TRACE_MOST ? trace[i] : BAD;
        }

        int begin(int number, int act, int x) {
            ran = 0;
            if (!isBody(number) || act < 0 || act >= ACTS) {
                return 0;
            }
            return own(number, act, x, 0);
        }

        private int own(int n, int act, int x, int depth) {
            return from(kindOf(n), n, act, x, depth);
        }

        private int higher(int kind, int n, int act, int x, int depth) {
            return from(isKind(kind) ? ABOVE[kind] : -1, n, act, x, depth);
        }

        private int from(int kind, int n, int act, int x, int depth) {
            int k = kind;
            for (int i = 0; i < KINDS && isKind(k) && BODY_FOR[k * ACTS + act] == 0; i++) {
                k = ABOVE[k];
            }
            return isKind(k) && depth < DEPTH_MOST ? perform(BODY_FOR[k * ACTS + act], n, x, depth + 1) : 0;
        }

        private int perform(int body, int n, int x, int depth) {
            if (ran < TRACE_MOST) {
                trace[ran] = body;
            }
            ran++;
            switch (body) {
                case 1: return x + n;
                case 2: return own(n, OWES, x, depth) - own(n, PAYS, 1, depth);
                case 10: return own(n, RUNS, x, depth) * 2;
                case 11: return x ^ n;
                case 20: return higher(PENNY, n, RUNS, x, depth) + 3;
                case 30: return -higher(SUM, n, OWES, x, depth);
                case 40: return higher(OAK, n, PAYS, x, depth) * 3;
                case 41: return higher(OAK, n, OWES, x + 1, depth);
                case 50: return higher(UNCLE, n, TELLS, x, depth) ^ 5;
                case 60: return higher(RAINS, n, PAYS, x, depth) - own(n, RUNS, 2, depth);
                case 61: return higher(RAINS, n, TELLS, x, depth) + 1;
                case 70: return higher(PRIZES, n, RUNS, x, depth) * 2;
                case 80: return higher(SHEET, n, OWES, x, depth) + own(n, PAYS, 2, depth);
                case 81: return higher(SHEET, n, RUNS, x, depth) - 1;
                default: return 0;
            }
        }
    }

    /** What the shelves hold: nothing, a body, or a row; a row's elements are longs that its sort has cut. */
    private static final class Shelves {
        private final int[] sorts = new int[SHELVES];
        private final int[] sizes = new int[SHELVES];
        private final int[] bodyOn = new int[SHELVES];
        private final long[] values = new long[SHELVES * ROW_MOST];

        Shelves() {
            for (int shelf = 0; shelf < SHELVES; shelf++) {
                sorts[shelf] = NOTHING;
            }
        }

        boolean isShelf(int shelf) {
            return shelf >= 0 && shelf < SHELVES;
        }

        boolean isEmpty(int shelf) {
            return isShelf(shelf) && sorts[shelf] == NOTHING;
        }

        boolean isRow(int shelf) {
            return isShelf(shelf) && sorts[shelf] <= BOOLEANS;
        }

        boolean areAlike(int shelf, int other) {
            return isShelf(shelf) && isShelf(other) && sorts[shelf] == sorts[other];
        }

        /** Why a shelf does not hold what is wanted; 0: it does. */
        int refusal(int shelf, int sort) {
            if (!isShelf(shelf)) {
                return BAD;
            }
            return sorts[shelf] == NOTHING ? NOTHING_THERE : sorts[shelf] != sort ? ANOTHER_KIND : 0;
        }

        int placeRefusal(int shelf, int i) {
            if (!isShelf(shelf)) {
                return BAD;
            }
            if (sorts[shelf] == NOTHING) {
                return NOTHING_THERE;
            }
            return !isRow(shelf) ? ANOTHER_KIND : !isPlace(shelf, i) ? NO_PLACE : 0;
        }

        private boolean isPlace(int shelf, int i) {
            return isRow(shelf) && i >= 0 && i < sizes[shelf];
        }

        int size(int shelf) {
            return isRow(shelf) ? sizes[shelf] : 0;
        }

        int bodyOn(int shelf) {
            return isShelf(shelf) && sorts[shelf] == A_BODY ? bodyOn[shelf] : -1;
        }

        void hold(int shelf, int body) {
            if (isShelf(shelf)) {
                sorts[shelf] = body == -1 ? NOTHING : A_BODY;
                bodyOn[shelf] = body;
            }
        }

        void holdRow(int shelf, int sort, int n) {
            if (isShelf(shelf) && n >= 0 && n <= ROW_MOST) {
                sorts[shelf] = sort;
                sizes[shelf] = n;
                for (int i = 0; i < n; i++) {
                    values[shelf * ROW_MOST + i] = 0;
                }
            }
        }

        long value(int shelf, int i) {
            return isPlace(shelf, i) ? values[shelf * ROW_MOST + i] : 0;
        }

        void become(int shelf, int i, long v) {
            if (isPlace(shelf, i)) {
                values[shelf * ROW_MOST + i] = cut(sorts[shelf], v);
            }
        }

        private static long cut(int sort, long v) {
            switch (sort) {
                case BYTES: return (byte) v;
                case SHORTS: return (short) v;
                case INTS: return (int) v;
                case LONGS: return v;
                default: return v != 0 ? 1 : 0;
            }
        }

        boolean hasPart(int shelf, int i, int n) {
            return isRow(shelf) && i >= 0 && n >= 0 && n <= sizes[shelf] && i <= sizes[shelf] - n;
        }

        void copyPart(int shelf, int i, int other, int j, int n) {
            if (hasPart(shelf, i, n) && hasPart(other, j, n)) {
                System.arraycopy(values, shelf * ROW_MOST + i, values, other * ROW_MOST + j, n);
            }
        }
    }
}
