import java.util.ArrayList;
import java.util.Arrays;
import java.util.HashMap;
import java.util.List;
import java.util.Map;

/** The document told once more in the plainest way: all is kept in lists and worked out anew at each call. */
final class Model {
    private static final int[] LEAST = {1, 0, 0, 0, 0, 0, 0, 0, 0, 0, 0, 1, 0};
    private static final int[] MOST = {30, 9, 99, 12, 200, 999, 99, 9999, 9999, 9, 12, 4, 999};
    private static final int[] ABOVE = {-1, 0, 0, 2, 1, 3, 0, 6};

    /** What goes on in deed, and what an image keeps. */
    private static final class Deeds {
        int[] laps = new int[6];
        int[] minutes = new int[6];
        int[] paid = new int[16];
        int[] led = new int[5];

        Deeds copy() {
            Deeds copy = new Deeds();
            copy.laps = laps.clone();
            copy.minutes = minutes.clone();
            copy.paid = paid.clone();
            copy.led = led.clone();
            return copy;
        }
    }

    /** A number told otherwise. */
    private record Change(List<Integer> place, int was, int is) {
    }

    private final List<Integer> childOf = new ArrayList<>();
    private final Map<List<Integer>, Integer> numbers = new HashMap<>();
    private final List<Change> done = new ArrayList<>();
    private final List<Change> undone = new ArrayList<>();
    private int children;
    private String tape = "";
    private String text;
    private Deeds deeds = new Deeds();
    private Deeds image;
    private final List<Integer> kinds = new ArrayList<>();
    private final List<Integer> trace = new ArrayList<>();
    /** By shelf: null, a body's number, or a row. */
    private final Object[] held = new Object[6];
    private final int[] sorts = new int[6];

    Model() {
        for (int what = 9; what <= 12; what++) {
            numbers.put(List.of(0, what), what == 10 ? 8 : what == 11 ? 2 : 0);
        }
    }

    private static boolean in(long v, long least, long most) {
        return least <= v && v <= most;
    }

    private boolean isChild(int c) {
        return in(c, 0, children - 1);
    }

    private boolean isSponsor(int s) {
        return in(s, 0, childOf.size() - 1);
    }

    private int number(int number, int what) {
        return numbers.get(List.of(number, what));
    }

    // ---- children, sponsors

    int child(int pace) {
        if (!in(pace, 1, 30)) {
            return -1;
        }
        if (children == 6) {
            return -3;
        }
        int[] first = {pace, 0, 99, 0};
        for (int what = 0; what <= 3; what++) {
            numbers.put(List.of(children, what), first[what]);
        }
        return children++;
    }

    int sponsor(int child, int per) {
        return comes(child, per, 0);
    }

    private int comes(long child, long per, long flat) {
        if (!in(child, 0, children - 1) || !in(per, 0, 200) || !in(flat, 0, 999)) {
            return -1;
        }
        if (childOf.size() == 16) {
            return -3;
        }
        int[] first = {(int) per, (int) flat, 10, 0, 9999};
        for (int what = 4; what <= 8; what++) {
            numbers.put(List.of(childOf.size(), what), first[what - 4]);
        }
        childOf.add((int) child);
        return childOf.size() - 1;
    }

    int sponsors(int shelf, int i, int n) {
        if (!in(shelf, 0, 5) || !in(n, 1, 16)) {
            return -1;
        }
        if (held[shelf] != null && !isRow(shelf, 1)) {
            return -12;
        }
        long[] row = held[shelf] == null ? new long[0] : (long[]) held[shelf];
        int came = 0;
        for (long at = i; i >= 0 && came < n && at + 2 < row.length && comes(row[(int) at], row[(int) at + 1], row[(int) at + 2]) >= 0; at += 3) {
            came++;
        }
        return came;
    }

    int mend(int number, int what, int v) {
        if (!numbers.containsKey(List.of(number, what)) || !in(v, LEAST[what], MOST[what])) {
            return -1;
        }
        int was = number(number, what);
        if (was != v) {
            numbers.put(List.of(number, what), v);
            done.add(new Change(List.of(number, what), was, v));
            undone.clear();
            if (done.size() > 40) {
                done.remove(0);
            }
        }
        return was;
    }

    int of(int number, int what) {
        if (numbers.containsKey(List.of(number, what))) {
            return number(number, what);
        }
        if (what == 13 && isSponsor(number)) {
            return childOf.get(number);
        }
        if (what == 14 && isSponsor(number)) {
            return deeds.paid[number];
        }
        return what == 15 && isChild(number) ? deeds.laps[number] : what == 16 && isChild(number) ? deeds.minutes[number] : -1;
    }

    int feed(int letter) {
        if (!in(letter, 0, 255)) {
            return -1;
        }
        if (tape.length() == 120) {
            return -3;
        }
        tape += (char) letter;
        return tape.length();
    }

    int law() {
        String told = tape;
        tape = "";
        if (Reader.isText(told)) {
            text = told;
            return 1;
        }
        for (int i = 0; i < told.length(); i++) {
            if (!goesOn(told.substring(0, i + 1))) {
                return -100 - i;
            }
        }
        return -100 - told.length();
    }

    /** Whether some TEXT begins so: what is wanted is an operand at most, and what is open is closed. */
    private static boolean goesOn(String begins) {
        for (int closing = 0; closing <= 6; closing++) {
            if (Reader.isText(begins + ")".repeat(closing)) || Reader.isText(begins + "1" + ")".repeat(closing))) {
                return true;
            }
        }
        return false;
    }

    /** Reads a text as its rules are told, and works it out as it goes. */
    private static final class Reader {
        private final String text;
        private final int[] names;
        private int at;
        private boolean amiss;

        Reader(String text, int... names) {
            this.text = text;
            this.names = names;
        }

        static boolean isText(String text) {
            Reader reader = new Reader(text, 0, 0, 0, 0, 0, 0);
            reader.lines();
            return !reader.amiss && reader.at == text.length();
        }

        private boolean next(String signs) {
            boolean is = !amiss && at < text.length() && signs.indexOf(text.charAt(at)) >= 0;
            at += is ? 1 : 0;
            return is;
        }

        private char last() {
            return text.charAt(at - 1);
        }

        int lines() {
            Integer counts = null;
            do {
                int e = e(0);
                Integer line = e;
                if (next("?")) {
                    int then = e(0);
                    line = e != 0 ? then : null;
                }
                counts = counts == null ? line : counts;
            } while (next(";"));
            return counts == null ? 0 : counts;
        }

        private int e(int open) {
            int v = a(open);
            while (next("|")) {
                v = (v | a(open)) != 0 ? 1 : 0;
            }
            return v;
        }

        private int a(int open) {
            int v = b(open);
            while (next("&")) {
                int w = b(open);
                v = v != 0 && w != 0 ? 1 : 0;
            }
            return v;
        }

        private int b(int open) {
            int v = s(open);
            if (next("<=>")) {
                char sign = last();
                int sides = Integer.compare(v, s(open));
                v = sides == "<=>".indexOf(sign) - 1 ? 1 : 0;
            }
            return v;
        }

        private int s(int open) {
            int v = p(open);
            while (next("+-")) {
                v += last() == '+' ? p(open) : -p(open);
            }
            return v;
        }

        private int p(int open) {
            int v = o(open);
            while (next("*/%")) {
                char sign = last();
                int w = o(open);
                v = sign == '*' ? v * w : w == 0 ? 0 : sign == '/' ? v / w : v % w;
            }
            return v;
        }

        private int o(int open) {
            if (next("0123456789")) {
                int v = last() - '0';
                for (int i = 1; i < 4 && next("0123456789"); i++) {
                    v = 10 * v + last() - '0';
                }
                return v;
            }
            if (next("ptkmrc")) {
                return names["ptkmrc".indexOf(last())];
            }
            if (open < 6 && next("(!-")) {
                char sign = last();
                int v = sign == '(' ? e(open + 1) : o(open + 1);
                amiss |= sign == '(' && !next(")");
                return sign == '(' ? v : sign == '-' ? -v : v == 0 ? 1 : 0;
            }
            amiss = true;
            return 0;
        }
    }

    private int takes(int c, int k, int m) {
        int p = number(c, 0);
        int t = number(c, 1);
        int r = number(0, 9);
        int v = text == null ? p + t * k / 4 + r : new Reader(text, p, t, k, m, r, c).lines();
        return Math.max(1, Math.min(99, v));
    }

    int lap(int child, int km) {
        return isChild(child) && in(km, 0, 99999) ? takes(child, km / 1000, km % 1000) : -1;
    }

    // ---- in thought

    private int owed(int s, int laps) {
        int owed = number(s, 4) * laps + (laps >= number(s, 6) ? number(s, 5) : 0);
        return number(s, 7) > 0 ? Math.min(owed, number(s, 7)) : owed;
    }

    private int paid(int s, int laps) {
        return Math.min(owed(s, laps), number(s, 8));
    }

    private int toChild(int c, int laps, boolean pays) {
        int sum = 0;
        for (int s = 0; s < childOf.size(); s++) {
            sum += childOf.get(s) != c ? 0 : pays ? paid(s, laps) : owed(s, laps);
        }
        return sum;
    }

    private int minutesOf(int c, int laps) {
        int m = 0;
        for (int k = 0; k < laps; k++) {
            m += takes(c, k, m);
        }
        return m;
    }

    private int lapsBy(int c, int t) {
        int m = 0;
        for (int k = 0; k < number(c, 2); k++) {
            m += takes(c, k, m);
            if (m > t) {
                return k;
            }
        }
        return number(c, 2);
    }

    private int[] lapsOfAll(int t) {
        int[] laps = new int[children];
        for (int c = 0; c < children; c++) {
            laps[c] = lapsBy(c, t);
        }
        return laps;
    }

    /** Laps, owed, paid of all; paid less the prize, if somebody gets it. */
    private int ofAll(int[] laps, int what) {
        int sum = what == 2 && Arrays.stream(laps).sum() > 0 ? -number(0, 12) : 0;
        for (int c = 0; c < children; c++) {
            sum += what == 0 ? laps[c] : toChild(c, laps[c], what == 2);
        }
        return sum;
    }

    int laps(int child, int t, int what) {
        if (child != -1 && !isChild(child) || !in(t, 0, 999) || !in(what, 0, 2)) {
            return -1;
        }
        if (child == -1) {
            return ofAll(lapsOfAll(t), what);
        }
        return what == 0 ? lapsBy(child, t) : toChild(child, lapsBy(child, t), what == 2);
    }

    int minutes(int child, int laps) {
        if (!isChild(child) || !in(laps, 0, 99)) {
            return -1;
        }
        return laps > number(child, 2) || minutesOf(child, laps) > 9999 ? -2 : minutesOf(child, laps);
    }

    int most(int t, int what) {
        if (!in(t, 0, 999) || !in(what, 0, 2)) {
            return -1;
        }
        int[] laps = lapsOfAll(t);
        if (what == 0) {
            int bits = 0;
            for (int s = 0; s < childOf.size(); s++) {
                bits |= owed(s, laps[childOf.get(s)]) > number(s, 8) ? 1 << s : 0;
            }
            return bits;
        }
        int whose = -2;
        int most = what == 1 ? 0 : -1;
        for (int c = 0; c < children; c++) {
            int v = what == 1 ? laps[c] : toChild(c, laps[c], true);
            whose = v > most ? c : whose;
            most = Math.max(most, v);
        }
        return whose;
    }

    int owes(int sponsor, int laps, int what) {
        if (!isSponsor(sponsor) || !in(laps, 0, 99) || !in(what, 0, 1)) {
            return -1;
        }
        return what == 0 ? owed(sponsor, laps) : paid(sponsor, laps);
    }

    int more(int child, int laps) {
        return isChild(child) && in(laps, 0, 98) ? toChild(child, laps + 1, true) - toChild(child, laps, true) : -1;
    }

    int done(int child) {
        if (!isChild(child)) {
            return -1;
        }
        int from = 0;
        for (int laps = 0; laps < 99; laps++) {
            from = more(child, laps) != 0 ? laps + 1 : from;
        }
        return from;
    }

    int lapOrSum(int sponsor, int v) {
        if (!isSponsor(sponsor) || !in(v, 0, 9999)) {
            return -1;
        }
        int least = -2;
        for (int laps = 99; laps >= 0; laps--) {
            least = owed(sponsor, laps) >= v ? laps : least;
        }
        return least;
    }

    int top(int sponsor) {
        if (!isSponsor(sponsor)) {
            return -1;
        }
        int most = 0;
        for (int laps = 0; laps <= 99; laps++) {
            most = Math.max(most, number(sponsor, 4) * laps + (laps >= number(sponsor, 6) ? number(sponsor, 5) : 0));
        }
        return most <= number(sponsor, 8) ? 0 : Math.max(1, number(sponsor, 8));
    }

    int howLong(int v) {
        if (!in(v, 0, 99999)) {
            return -1;
        }
        for (int t = 0; t <= 999; t++) {
            if (ofAll(lapsOfAll(t), 2) >= v) {
                return t;
            }
        }
        return -2;
    }

    /** A way to share the field from some child on: pence, minutes, laps by child. */
    private record Way(int pence, int minutes, List<Integer> laps) {
        boolean isAheadOf(Way other) {
            if (pence != other.pence || minutes != other.minutes) {
                return pence != other.pence ? pence > other.pence : minutes < other.minutes;
            }
            int i = 0;
            while (i < laps.size() - 1 && laps.get(i).equals(other.laps.get(i))) {
                i++;
            }
            return !laps.isEmpty() && laps.get(i) < other.laps.get(i);
        }
    }

    int field(int m, int child) {
        if (!in(m, 0, 300) || child != -1 && child != -2 && !isChild(child)) {
            return -1;
        }
        Way[] best = new Way[m + 1];
        Arrays.fill(best, new Way(0, 0, List.of()));
        for (int c = children - 1; c >= 0; c--) {
            Way[] behind = best;
            best = new Way[m + 1];
            for (int k = 0; k <= number(c, 2) && minutesOf(c, k) <= m; k++) {
                int pence = toChild(c, k, true);
                int takes = minutesOf(c, k);
                for (int left = takes; left <= m; left++) {
                    Way rest = behind[left - takes];
                    List<Integer> laps = new ArrayList<>(List.of(k));
                    laps.addAll(rest.laps);
                    Way way = new Way(pence + rest.pence, takes + rest.minutes, laps);
                    best[left] = best[left] == null || way.isAheadOf(best[left]) ? way : best[left];
                }
            }
        }
        return child == -1 ? best[m].pence : child == -2 ? best[m].minutes : best[m].laps.get(child);
    }

    // ---- coming in, sheets

    private boolean isRow(int shelf, int sort) {
        return held[shelf] instanceof long[] && sorts[shelf] == sort;
    }

    private int refusal(int shelf, int sort) {
        return held[shelf] == null ? -11 : isRow(shelf, sort) ? 0 : -12;
    }

    /** What has come by 0 to 60 weeks, with a reminder in one week more. */
    private int[] coming(int shelf, int t, int more) {
        int[] left = new int[16];
        for (int s = 0; s < childOf.size(); s++) {
            left[s] = paid(s, lapsBy(childOf.get(s), t));
        }
        int[] by = new int[61];
        for (int week = 0; week < 60; week++) {
            boolean reminder = week == more;
            for (long w : (long[]) held[shelf]) {
                reminder |= w == week;
            }
            by[week + 1] = by[week];
            for (int s = 0; s < childOf.size(); s++) {
                int comes = left[s] == 0 ? 0 : Math.max(1, left[s] * number(0, 10) / 12);
                comes = Math.min(left[s], reminder ? comes * number(0, 11) : comes);
                left[s] -= comes;
                by[week + 1] += comes;
            }
        }
        return by;
    }

    private int refusalByWeeks(int shelf, int tw, int most) {
        return !in(shelf, 0, 5) || !in(tw, 0, 99999) || tw % 100 > most ? -1 : refusal(shelf, 0);
    }

    int comes(int shelf, int tw) {
        int refusal = refusalByWeeks(shelf, tw, 60);
        return refusal != 0 ? refusal : coming(shelf, tw / 100, -1)[tw % 100];
    }

    int by(int shelf, int tx) {
        int refusal = refusalByWeeks(shelf, tx, 12);
        if (refusal != 0) {
            return refusal;
        }
        int all = 0;
        for (int s = 0; s < childOf.size(); s++) {
            all += paid(s, lapsBy(childOf.get(s), tx / 100));
        }
        int[] by = coming(shelf, tx / 100, -1);
        for (int w = 0; w <= 60; w++) {
            if (by[w] * 12 >= all * (tx % 100)) {
                return w;
            }
        }
        return -2;
    }

    int remind(int shelf, int tw, int what) {
        int refusal = !in(what, 0, 1) ? -1 : refusalByWeeks(shelf, tw, 60);
        if (refusal != 0 || tw % 100 == 0) {
            return refusal != 0 ? refusal : -2;
        }
        int best = 0;
        for (int week = 1; week < tw % 100; week++) {
            boolean brings = coming(shelf, tw / 100, week)[tw % 100] > coming(shelf, tw / 100, best)[tw % 100];
            best = brings ? week : best;
        }
        return what == 0 ? best : coming(shelf, tw / 100, best)[tw % 100];
    }

    private int amiss(int shelf, int t) {
        long[] row = (long[]) held[shelf];
        for (int i = 0; i < row.length; i += 2) {
            if (i + 1 == row.length || !in(row[i], 0, children - 1) || toChild((int) row[i], lapsBy((int) row[i], t), true) != row[i + 1]) {
                return i / 2;
            }
        }
        return -2;
    }

    int judge(int shelf, int t) {
        int refusal = !in(shelf, 0, 5) || !in(t, 0, 999) ? -1 : refusal(shelf, 1);
        return refusal != 0 ? refusal : amiss(shelf, t);
    }

    int lapsFor(int child, int v, int what) {
        if (!isChild(child) || !in(v, 0, 99999) || !in(what, 0, 1)) {
            return -1;
        }
        List<Integer> fit = new ArrayList<>();
        for (int laps = 0; laps <= 99; laps++) {
            if (toChild(child, laps, true) == v) {
                fit.add(laps);
            }
        }
        return what == 0 ? fit.size() : fit.isEmpty() ? -2 : fit.get(0);
    }

    int minutesFor(int shelf) {
        int refusal = !in(shelf, 0, 5) ? -1 : refusal(shelf, 1);
        if (refusal != 0) {
            return refusal;
        }
        for (int t = 0; t <= 999; t++) {
            if (amiss(shelf, t) == -2) {
                return t;
            }
        }
        return -2;
    }

    int whose(int child, int t, int v) {
        if (!isChild(child) || !in(t, 0, 999) || !in(v, 0, 99999)) {
            return -1;
        }
        int laps = lapsBy(child, t);
        for (int per = 0; per <= 200; per++) {
            if (toChild(child, laps, true) + Math.min(9999, per * laps) == v) {
                return per;
            }
        }
        return -2;
    }

    int oak(int shelf, int t, int child) {
        int refusal = !in(shelf, 0, 5) || !in(t, 0, 999) || child != -1 && !isChild(child) ? -1 : refusal(shelf, 0);
        if (refusal != 0) {
            return refusal;
        }
        long[] row = (long[]) held[shelf];
        int bits = 0;
        int[] under = new int[6];
        for (int c = 0; c < children && c < row.length; c++) {
            if (row[c] > lapsBy(c, t)) {
                bits |= 1 << c;
                under[c] = t - minutesOf(c, (int) row[c]);
            }
        }
        return child == -1 ? bits : under[child];
    }

    int drawn(int seed, int nt, int what) {
        if (!in(nt, 1000, 30999) || !in(what, 0, 1)) {
            return -1;
        }
        int z = seed;
        int sum = 0;
        for (int field = 0; field < nt / 1000; field++) {
            int[] laps = new int[children];
            for (int c = 0; c < children; c++) {
                int m = 0;
                while (laps[c] < number(c, 2)) {
                    z = z * 1103515245 + 12345;
                    int takes = takes(c, laps[c], m);
                    m += (z >>> 8) % 12 < number(c, 3) ? Math.max(1, takes / 2) : takes;
                    if (m > nt % 1000) {
                        break;
                    }
                    laps[c]++;
                }
            }
            sum += ofAll(laps, what == 0 ? 0 : 2);
        }
        return sum;
    }

    // ---- in deed

    int run(int child) {
        if (!isChild(child)) {
            return -1;
        }
        if (deeds.laps[child] >= number(child, 2)) {
            return -5;
        }
        int takes = takes(child, deeds.laps[child], deeds.minutes[child]);
        deeds.laps[child]++;
        deeds.minutes[child] += takes;
        deeds.led[0]++;
        deeds.led[3] += takes;
        return deeds.minutes[child];
    }

    int ask(int sponsor) {
        if (!isSponsor(sponsor)) {
            return -1;
        }
        int laps = deeds.laps[childOf.get(sponsor)];
        int pays = Math.max(0, paid(sponsor, laps) - deeds.paid[sponsor]);
        deeds.paid[sponsor] += pays;
        deeds.led[1] += pays;
        deeds.led[4] += owed(sponsor, laps) > number(sponsor, 8) ? 1 : 0;
        return pays;
    }

    int anew() {
        int laps = Arrays.stream(deeds.laps).sum();
        int[] led = deeds.led;
        deeds = new Deeds();
        deeds.led = led;
        led[2]++;
        return laps;
    }

    int led(int what) {
        return in(what, 0, 4) ? deeds.led[what] : -1;
    }

    int image() {
        image = deeds.copy();
        return deeds.led[0];
    }

    int back() {
        if (image == null) {
            return -5;
        }
        deeds = image.copy();
        return deeds.led[0];
    }

    int undo() {
        return move(done, undone, false);
    }

    int redo() {
        return move(undone, done, true);
    }

    private int move(List<Change> from, List<Change> to, boolean again) {
        if (from.isEmpty()) {
            return -5;
        }
        Change change = from.remove(from.size() - 1);
        numbers.put(change.place, again ? change.is : change.was);
        to.add(change);
        return from.size();
    }

    // ---- acts, shelves

    int body(int kind) {
        if (!in(kind, 0, 7)) {
            return -1;
        }
        if (kinds.size() == 50) {
            return -3;
        }
        kinds.add(kind);
        return kinds.size() - 1;
    }

    int act(int body, int act, int x) {
        trace.clear();
        return in(body, 0, kinds.size() - 1) && in(act, 0, 3) ? act(kinds.get(body), body, act, x) : 0;
    }

    /** The body of an act that a kind has itself, or the one above. */
    private int act(int kind, int n, int act, int x) {
        int own = kinds.get(n);
        int above = ABOVE[kind];
        switch (kind * 4 + act) {
            case 0: trace.add(1); return x + n;
            case 1: trace.add(10); return act(own, n, 0, x) * 2;
            case 2: trace.add(11); return x ^ n;
            case 3: trace.add(2); return act(own, n, 1, x) - act(own, n, 2, 1);
            case 4: trace.add(20); return act(above, n, 0, x) + 3;
            case 9: trace.add(30); return -act(above, n, 1, x);
            case 14: trace.add(40); return act(above, n, 2, x) * 3;
            case 13: trace.add(41); return act(above, n, 1, x + 1);
            case 19: trace.add(50); return act(above, n, 3, x) ^ 5;
            case 22: trace.add(60); return act(above, n, 2, x) - act(own, n, 0, 2);
            case 23: trace.add(61); return act(above, n, 3, x) + 1;
            case 24: trace.add(70); return act(above, n, 0, x) * 2;
            case 29: trace.add(80); return act(above, n, 1, x) + act(own, n, 2, 2);
            case 28: trace.add(81); return act(above, n, 0, x) - 1;
            default: return act(above, n, act, x);
        }
    }

    int trace(int i) {
        return in(i, 0, Math.min(23, trace.size() - 1)) ? trace.get(i) : -1;
    }

    int keep(int shelf, int body) {
        if (!in(shelf, 0, 5) || !in(body, -1, kinds.size() - 1)) {
            return -1;
        }
        held[shelf] = body == -1 ? null : Integer.valueOf(body);
        return 1;
    }

    int row(int shelf, int sort, int n) {
        if (!in(shelf, 0, 5) || !in(sort, 0, 4) || n > 60) {
            return -1;
        }
        if (n < 0) {
            return -14;
        }
        held[shelf] = new long[n];
        sorts[shelf] = sort;
        return 1;
    }

    private int placeRefusal(int shelf, int i) {
        if (!in(shelf, 0, 5)) {
            return -1;
        }
        return held[shelf] == null ? -11 : !(held[shelf] instanceof long[] row) ? -12 : in(i, 0, row.length - 1) ? 0 : -13;
    }

    int put(int shelf, int i, long v) {
        int refusal = placeRefusal(shelf, i);
        if (refusal == 0) {
            int sort = sorts[shelf];
            long cut = sort == 0 ? (byte) v : sort == 1 ? (short) v : sort == 2 ? (int) v : sort == 3 ? v : v == 0 ? 0 : 1;
            ((long[]) held[shelf])[i] = cut;
        }
        return refusal == 0 ? 1 : refusal;
    }

    long element(int shelf, int i) {
        return placeRefusal(shelf, i) == 0 ? ((long[]) held[shelf])[i] : Long.MIN_VALUE;
    }

    int shift(int shelf, int i, int other, int j, int n) {
        if (!in(shelf, 0, 5) || !in(other, 0, 5)) {
            return -1;
        }
        if (held[shelf] == null || held[other] == null) {
            return -11;
        }
        if (!(held[shelf] instanceof long[] from) || !(held[other] instanceof long[] to) || sorts[shelf] != sorts[other]) {
            return -12;
        }
        if (n < 0 || i < 0 || j < 0 || (long) i + n > from.length || (long) j + n > to.length) {
            return -13;
        }
        long[] before = from.clone();
        for (int k = 0; k < n; k++) {
            to[j + k] = before[i + k];
        }
        return n;
    }

    int taken(int shelf, int k) {
        if (!in(shelf, 0, 5) || !in(k, 0, 7)) {
            return -1;
        }
        if (held[shelf] == null) {
            return -11;
        }
        int kind = held[shelf] instanceof Integer body ? kinds.get(body) : -1;
        int up = kind;
        while (up != -1 && up != k) {
            up = ABOVE[up];
        }
        return up == -1 ? -12 : kind;
    }

    int count(int what) {
        int[] counts = {children, childOf.size(), tape.length(), done.size(), kinds.size(), trace.size()};
        return in(what, 0, 5) ? counts[what] : -1;
    }
}
