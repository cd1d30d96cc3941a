/** The edges of promises 40 to 46, of what Terms 5 says of shelves, and of the answers that all calls share. */
final class EdgesOfShelves extends EdgesOf {
    private static final long NONE = Long.MIN_VALUE;

    EdgesOfShelves(Edges edges) {
        super(edges);
    }

    @Override
    void all() {
        shelves();
        lowestBits();
        hostsRefusals();
        keep();
        row();
        put();
        element();
        shift();
        shiftRefused();
        taken();
        count();
        answers();
        orderOfAnswers();
    }

    private void shelves() {
        edges.term(5, "SHELVES 0 .. 5 each hold nothing (at first), a BODY, or a ROW: of 0 bytes, 1 shorts, 2 ints, 3 longs, 4 booleans, of 0 .. 60"
            + " elements, 0 at first (false)");
        for (int shelf = 0; shelf <= 5; shelf++) {
            for (int sort = 0; sort <= 4; sort++) {
                oneShelf(shelf, sort);
            }
        }
        PennyALap x = new PennyALap();
        for (int shelf = 0; shelf <= 5; shelf++) {
            x.row(shelf, 3, 60);
            x.put(shelf, 0, 10 + shelf);
            x.put(shelf, 59, 20 + shelf);
        }
        for (int shelf = 0; shelf <= 5; shelf++) {
            edges.is("each its own first", x.element(shelf, 0), 10 + shelf);
            edges.is("each its own last", x.element(shelf, 59), 20 + shelf);
        }
    }

    /** Nothing, a body, a full row, an empty one, a row of one element, and nothing again. */
    private void oneShelf(int shelf, int sort) {
        PennyALap x = new PennyALap();
        x.body(3);
        edges.is("nothing at first: shelf " + shelf, x.taken(shelf, 0), -11);
        edges.is("a body: shelf " + shelf, x.keep(shelf, 0), 1);
        edges.is("its kind: shelf " + shelf, x.taken(shelf, 0), 3);
        edges.is("a row of 60", x.row(shelf, sort, 60), 1);
        for (int i = 0; i < 60; i++) {
            edges.is("0 at first", x.element(shelf, i), 0);
            x.put(shelf, i, -1);
        }
        edges.is("no place 60", x.element(shelf, 60), NONE);
        edges.is("a row of none", x.row(shelf, sort, 0), 1);
        edges.is("no place 0", x.element(shelf, 0), NONE);
        edges.is("a row of 1", x.row(shelf, sort, 1), 1);
        edges.is("0 again", x.element(shelf, 0), 0);
        edges.is("no place 1", x.element(shelf, 1), NONE);
        edges.is("nothing again", x.keep(shelf, -1), 1);
        edges.is("nothing again: shelf " + shelf, x.put(shelf, 0, 1), -11);
    }

    private void lowestBits() {
        edges.term(5, "what is put in keeps its lowest bits (a boolean: whether it is not 0; 1 or 0).");
        PennyALap x = new PennyALap();
        long[] told = {0, 1, -1, 127, 128, -128, -129, 255, 256, 32767, 32768, -32768, -32769, 65535, 65536, MAX, MIN, MAX + 1L, MIN - 1L,
            (1L << 32) - 1, 1L << 32, Long.MAX_VALUE, Long.MIN_VALUE};
        for (int sort = 0; sort <= 4; sort++) {
            x.row(sort, sort, 2);
            for (long v : told) {
                edges.is("put(" + sort + ", 1, " + v + ")", x.put(sort, 1, v), 1);
                long want = sort == 0 ? (byte) v : sort == 1 ? (short) v : sort == 2 ? (int) v : sort == 3 ? v : v != 0 ? 1 : 0;
                edges.is("element of it", x.element(sort, 1), want);
                edges.is("the other element", x.element(sort, 0), 0);
            }
        }
    }

    private void hostsRefusals() {
        edges.term(5, "The host's REFUSALS: -11 nothing is there where something is wanted; -12 it is of another kind; -13 a place that is not there;"
            + " -14 a size below 0.");
        PennyALap x = SOME.made();
        edges.is("-11", x.put(0, 0, 1), -11);
        edges.is("-12", x.put(1, 0, 1), -12);
        edges.is("-13", x.put(2, 3, 1), -13);
        edges.is("-14", x.row(2, 0, -1), -14);
    }

    private void keep() {
        edges.promise(40, "A SHELF holds nothing (body -1), or a BODY: 1. BAD.");
        PennyALap x = SOME.made();
        edges.is("keep(0, 0), the first", x.keep(0, 0), 1);
        edges.is("keep(5, 4), the last", x.keep(5, 4), 1);
        edges.is("taken(0, 0)", x.taken(0, 0), 7);
        edges.is("taken(5, 0)", x.taken(5, 0), 0);
        edges.is("keep(5, -1)", x.keep(5, -1), 1);
        edges.is("taken(5, 0)", x.taken(5, 0), -11);
        edges.is("nothing where nothing is", x.keep(5, -1), 1);
        edges.is("no bodies: nothing still goes", new PennyALap().keep(0, -1), 1);
        for (int shelf : NO_SHELF) {
            edges.refused("keep(" + shelf + ", 0)", SOME, -1, y -> y.keep(shelf, 0));
            edges.refused("keep(" + shelf + ", -1)", SOME, -1, y -> y.keep(shelf, -1));
        }
        for (int body : new int[] {-2, 5, 50, MIN, MAX}) {
            edges.refused("keep(0, " + body + ")", SOME, -1, y -> y.keep(0, body));
            edges.refused("keep(1, " + body + ")", SOME, -1, y -> y.keep(1, body));
            edges.refused("keep(3, " + body + ")", SOME, -1, y -> y.keep(3, body));
        }
        edges.refused("keep(0, 0)", FRESH, -1, y -> y.keep(0, 0));
        edges.refused("keep(0, 50)", FULL, -1, y -> y.keep(0, 50));
    }

    private void row() {
        edges.promise(41, "A SHELF holds a ROW: 1. BAD (sort, n above 60); -14.");
        PennyALap x = SOME.made();
        edges.is("row(0, 0, 0)", x.row(0, 0, 0), 1);
        edges.is("row(1, 4, 60), where a body was", x.row(1, 4, 60), 1);
        edges.is("its last place", x.put(1, 59, 1), 1);
        edges.is("no body any more", x.taken(1, 0), -12);
        edges.is("row(5, 4, 1)", x.row(5, 4, 1), 1);
        for (int shelf : NO_SHELF) {
            edges.refused("row(" + shelf + ", 0, 1)", SOME, -1, y -> y.row(shelf, 0, 1));
            edges.refused("row(" + shelf + ", 0, -1)", SOME, -1, y -> y.row(shelf, 0, -1));
        }
        for (int shelf = 0; shelf <= 3; shelf++) {
            int s = shelf;
            for (int sort : new int[] {-1, 5, MIN, MAX}) {
                edges.refused("row(" + shelf + ", " + sort + ", 1)", SOME, -1, y -> y.row(s, sort, 1));
                edges.refused("a size below 0, too: row(" + shelf + ", " + sort + ", -1)", SOME, -1, y -> y.row(s, sort, -1));
            }
            for (int n : new int[] {61, 62, MAX}) {
                edges.refused("row(" + shelf + ", 3, " + n + ")", SOME, -1, y -> y.row(s, 3, n));
            }
            for (int n : new int[] {-1, -60, MIN}) {
                edges.refused("row(" + shelf + ", 3, " + n + ")", SOME, -14, y -> y.row(s, 3, n));
            }
        }
    }

    private void put() {
        edges.promise(42, "Element i of a ROW becomes v: 1. BAD, -11, -12, -13.");
        PennyALap x = SOME.made();
        edges.is("the first place", x.put(2, 0, 5), 1);
        edges.is("the last place", x.put(2, 2, 6), 1);
        edges.is("the first", x.element(2, 0), 5);
        edges.is("between, as it was", x.element(2, 1), -1);
        edges.is("the last", x.element(2, 2), 6);
        for (int i : new int[] {-1, 0, 60, MIN, MAX}) {
            for (int shelf : NO_SHELF) {
                edges.refused("put(" + shelf + ", " + i + ", 7)", SOME, -1, y -> y.put(shelf, i, 7));
            }
            edges.refused("put(0, " + i + ", 7)", SOME, -11, y -> y.put(0, i, 7));
            edges.refused("put(1, " + i + ", 7)", SOME, -12, y -> y.put(1, i, 7));
        }
        for (int i : new int[] {-1, 3, 60, MIN, MAX}) {
            edges.refused("put(2, " + i + ", 7)", SOME, -13, y -> y.put(2, i, 7));
        }
        edges.refused("put(4, 2, 7)", SOME, -13, y -> y.put(4, 2, 7));
        edges.refused("a row of none: put(4, 0, 7)", FULL, -13, y -> y.put(4, 0, 7));
        edges.refused("a row of 60: put(3, 60, 7)", FULL, -13, y -> y.put(3, 60, 7));
        edges.is("a row of 60: put(3, 59, 7)", FULL.made().put(3, 59, 7), 1);
    }

    private void element() {
        edges.promise(43, "Element i of a ROW; Long.MIN_VALUE: BAD, -11 to -13.");
        edges.is("the first", SOME.made().element(2, 0), 1);
        edges.is("the last", SOME.made().element(2, 2), 70);
        for (int i : new int[] {-1, 0, 60, MIN, MAX}) {
            for (int shelf : NO_SHELF) {
                edges.refused("element(" + shelf + ", " + i + ")", SOME, NONE, y -> y.element(shelf, i));
            }
            edges.refused("nothing there: element(0, " + i + ")", SOME, NONE, y -> y.element(0, i));
            edges.refused("a body: element(1, " + i + ")", SOME, NONE, y -> y.element(1, i));
        }
        for (int i : new int[] {-1, 3, 60, MIN, MAX}) {
            edges.refused("element(2, " + i + ")", SOME, NONE, y -> y.element(2, i));
        }
        edges.refused("a row of none: element(4, 0)", FULL, NONE, y -> y.element(4, 0));
        edges.refused("a row of 60: element(3, 60)", FULL, NONE, y -> y.element(3, 60));
        edges.is("a row of 60: element(3, 59)", FULL.made().element(3, 59), 5);
    }

    private void isRow(PennyALap x, int shelf, String when, long... want) {
        for (int i = 0; i < want.length; i++) {
            edges.is(when + ": element(" + shelf + ", " + i + ")", x.element(shelf, i), want[i]);
        }
        edges.is(when + ": its end", x.element(shelf, want.length), NONE);
    }

    private void shift() {
        edges.promise(44, "n elements of a ROW from i on come to another one (or the same) from j on, as they all were before: n.");
        PennyALap x = new PennyALap();
        Due.row(x, 0, 3, 1, 2, 3, 4, 5);
        Due.row(x, 1, 3, 10, 20, 30);
        edges.is("none", x.shift(0, 0, 1, 0, 0), 0);
        edges.is("none, just behind the last of both", x.shift(0, 5, 1, 3, 0), 0);
        isRow(x, 1, "none", 10, 20, 30);
        edges.is("the last to the first", x.shift(0, 4, 1, 0, 1), 1);
        edges.is("the first to the last", x.shift(0, 0, 1, 2, 1), 1);
        isRow(x, 1, "one each", 5, 20, 1);
        isRow(x, 0, "where they came from", 1, 2, 3, 4, 5);
        edges.is("all of one", x.shift(1, 0, 0, 0, 3), 3);
        isRow(x, 0, "all of one", 5, 20, 1, 4, 5);
        edges.is("a place up, in the same", x.shift(0, 0, 0, 1, 4), 4);
        isRow(x, 0, "a place up", 5, 5, 20, 1, 4);
        edges.is("two down, in the same", x.shift(0, 2, 0, 0, 3), 3);
        isRow(x, 0, "two down", 20, 1, 4, 1, 4);
        edges.is("onto itself", x.shift(0, 0, 0, 0, 5), 5);
        isRow(x, 0, "onto itself", 20, 1, 4, 1, 4);
        x.row(2, 4, 60);
        x.row(3, 4, 60);
        x.put(2, 0, 1);
        x.put(2, 59, 1);
        edges.is("all sixty", x.shift(2, 0, 3, 0, 60), 60);
        edges.is("all sixty: the first", x.element(3, 0), 1);
        edges.is("all sixty: the last", x.element(3, 59), 1);
        x.row(4, 0, 0);
        x.row(5, 0, 0);
        edges.is("rows of none", x.shift(4, 0, 5, 0, 0), 0);
    }

    private void shiftRefused() {
        edges.promise(44, "BAD, -11 (either), -12 (no ROWS, or of unlike sorts), -13 (n below 0, too).");
        int[][] bad = {{-1, 0, 2, 0, 1, -1}, {6, 0, 2, 0, 1, -1}, {2, 0, -1, 0, 1, -1}, {2, 0, 6, 0, 1, -1}, {MIN, 0, MAX, 0, 1, -1},
            {0, 0, 6, 0, 1, -1}, {-1, 0, 0, 0, 1, -1}, {1, 0, 6, 0, 1, -1}, {6, 0, 2, 0, -1, -1},
            {0, 0, 2, 0, 1, -11}, {2, 0, 0, 0, 1, -11}, {0, 0, 0, 0, 0, -11}, {0, 0, 1, 0, 1, -11}, {1, 0, 0, 0, 1, -11}, {2, 0, 0, 9, -1, -11},
            {1, 0, 2, 0, 1, -12}, {2, 0, 1, 0, 1, -12}, {1, 0, 1, 0, 0, -12}, {2, 0, 3, 0, 1, -12}, {3, 0, 2, 0, 1, -12}, {4, 0, 5, 0, 1, -12},
            {2, 0, 4, 0, 0, -12}, {2, 9, 3, 0, -1, -12},
            {2, 0, 2, 0, -1, -13}, {2, 0, 2, 0, MIN, -13}, {2, 0, 2, 0, 4, -13}, {2, 0, 2, 0, MAX, -13}, {2, -1, 2, 0, 1, -13},
            {2, 0, 2, -1, 1, -13}, {2, 3, 2, 0, 1, -13}, {2, 0, 2, 3, 1, -13}, {2, 1, 2, 0, 3, -13}, {2, 0, 2, 1, 3, -13}, {2, 4, 2, 0, 0, -13},
            {2, 0, 2, 4, 0, -13}, {2, -1, 2, 0, 0, -13}, {2, 0, 2, -1, 0, -13}, {2, MAX, 2, 0, 1, -13}, {2, 0, 2, MAX, 1, -13},
            {2, MIN, 2, 0, 1, -13}, {2, 1, 2, 0, MAX, -13}, {2, 0, 2, 1, MAX, -13}, {2, MAX, 2, MAX, MAX, -13}, {2, MIN, 2, MIN, MIN, -13}};
        for (int[] b : bad) {
            edges.refused("shift(" + b[0] + ", " + b[1] + ", " + b[2] + ", " + b[3] + ", " + b[4] + ")", SOME, b[5],
                y -> y.shift(b[0], b[1], b[2], b[3], b[4]));
        }
        edges.refused("a row of none: shift(4, 0, 4, 0, 1)", FULL, -13, y -> y.shift(4, 0, 4, 0, 1));
        edges.refused("a row of 60: shift(1, 0, 1, 1, 60)", FULL, -13, y -> y.shift(1, 0, 1, 1, 60));
    }

    private void taken() {
        edges.promise(45, "What a SHELF holds, taken for a BODY of KIND k (0 .. 7), or under it: its KIND. BAD, -11, -12.");
        int[] above = {-1, 0, 0, 2, 1, 3, 0, 6};
        PennyALap x = new PennyALap();
        for (int kind = 0; kind < 8; kind++) {
            x.body(kind);
            x.keep(0, kind);
            for (int k = 0; k < 8; k++) {
                boolean under = false;
                for (int up = kind; up >= 0; up = above[up]) {
                    under |= up == k;
                }
                edges.is("kind " + kind + " for " + k, x.taken(0, k), under ? kind : -12);
            }
        }
        for (int shelf : NO_SHELF) {
            edges.refused("taken(" + shelf + ", 0)", SOME, -1, y -> y.taken(shelf, 0));
        }
        for (int shelf = 0; shelf <= 2; shelf++) {
            int s = shelf;
            for (int k : new int[] {-1, 8, MIN, MAX}) {
                edges.refused("taken(" + shelf + ", " + k + ")", SOME, -1, y -> y.taken(s, k));
            }
        }
        for (int k = 0; k < 8; k++) {
            int kind = k;
            edges.refused("nothing there: taken(0, " + k + ")", SOME, -11, y -> y.taken(0, kind));
            for (int shelf = 2; shelf <= 5; shelf++) {
                int s = shelf;
                edges.refused("a row: taken(" + shelf + ", " + k + ")", SOME, -12, y -> y.taken(s, kind));
            }
        }
        edges.refused("UNCLE is no SHEET: taken(5, 4)", FULL, -12, y -> y.taken(5, 4));
    }

    private void count() {
        edges.promise(46, "How many: 0 CHILDREN, 1 SPONSORS, 2 bytes on THE TAPE, 3 changes that may be UNDONE, 4 BODIES, 5 bodies that ran in the latest"
            + " act() (all, kept or not). BAD.");
        int[][] wants = {{0, 0, 0, 0, 0, 0}, {3, 4, 3, 10, 5, 10}, {6, 16, 120, 40, 50, 8}};
        for (Made.State state : Made.State.values()) {
            for (int what = 0; what <= 5; what++) {
                edges.is("count(" + what + ") of " + state, state.made().count(what), wants[state.ordinal()][what]);
            }
            for (int what : new int[] {-1, 6, MIN, MAX}) {
                edges.refused("count(" + what + ")", state, -1, y -> y.count(what));
            }
        }
    }

    private void answers() {
        edges.answers("BAD (-1): no such number, or it is not as said; NOT (-2): as told; FULL (-3); STATE (-5): as told; -11 to -14. VOID is -2000000000.");
        edges.is("BAD", PennyALap.BAD, -1);
        edges.is("NOT", PennyALap.NOT, -2);
        edges.is("FULL", PennyALap.FULL, -3);
        edges.is("STATE", PennyALap.STATE, -5);
        edges.is("VOID", PennyALap.VOID, -2000000000);
        edges.is("no such number", SOME.made().child(31), PennyALap.BAD);
        edges.is("as told", SOME.made().minutes(1, 5), PennyALap.NOT);
        edges.is("full", FULL.made().child(1), PennyALap.FULL);
        edges.is("no image", new PennyALap().back(), PennyALap.STATE);
        edges.answers("What is answered so changes nothing.");
        edges.is("every refused() above looks at all that can be seen: its views", Made.VIEWS, 9);
        for (Made.State state : Made.State.values()) {
            // what the views see of two objects made alike is alike, and a change of any kind is seen by one of them
            edges.is("a lap is seen in " + state, sees(state, y -> y.run(y.count(0) - 1)), state == FRESH ? 0 : 1);
            edges.is("a new field is seen in " + state, sees(state, PennyALap::anew), 1);
            edges.is("a kind is seen in " + state, sees(state, y -> y.body(3)), state == FULL ? 0 : 1);
            edges.is("a byte is seen in " + state, sees(state, y -> y.feed('+')), state == FULL ? 0 : 1);
            edges.is("a law is seen in " + state, sees(state, PennyALap::law), state == FRESH ? 0 : 1);
            edges.is("an image is seen in " + state, sees(state, PennyALap::image), 1);
            edges.is("a prize is seen in " + state, sees(state, y -> y.mend(0, 12, 777)), 1);
            edges.is("what is undone is seen in " + state, sees(state, PennyALap::undo), state == FRESH ? 0 : 1);
            edges.is("what is done again is seen in " + state, sees(state, PennyALap::redo), state == SOME ? 1 : 0);
            edges.is("a row is seen in " + state, sees(state, y -> y.row(0, 2, 0)), 1);
            edges.is("an element is seen in " + state, sees(state, y -> y.put(3, 0, 77)), state == FRESH ? 0 : 1);
            edges.is("an act is seen in " + state, sees(state, y -> y.act(0, 0, 0)), state == FRESH ? 0 : 1);
        }
    }

    private static int sees(Made.State state, Made.Call change) {
        for (int view = 0; view < Made.VIEWS; view++) {
            PennyALap x = state.made();
            change.on(x);
            if (!Made.view(view, x).equals(Made.view(view, state.made()))) {
                return 1;
            }
        }
        return 0;
    }

    private void orderOfAnswers() {
        edges.answers("of several the one named first");
        edges.is("BAD ahead of FULL: child", FULL.made().child(0), -1);
        edges.is("BAD ahead of FULL: sponsor", FULL.made().sponsor(6, 1), -1);
        edges.is("BAD ahead of FULL: feed", FULL.made().feed(256), -1);
        edges.is("BAD ahead of FULL: body", FULL.made().body(8), -1);
        edges.is("BAD ahead of NOT: minutes", SOME.made().minutes(1, 100), -1);
        edges.is("BAD ahead of NOT: most", new PennyALap().most(1000, 2), -1);
        edges.is("BAD ahead of NOT: lapOrSum", SOME.made().lapOrSum(0, 10000), -1);
        edges.is("BAD ahead of NOT: howLong", SOME.made().howLong(100000), -1);
        edges.is("BAD ahead of NOT: whose", SOME.made().whose(0, 0, 100000), -1);
        edges.is("BAD ahead of NOT: lapsFor", SOME.made().lapsFor(0, 100000, 1), -1);
        edges.is("BAD ahead of NOT: remind", SOME.made().remind(2, 100, 2), -1);
        edges.is("BAD ahead of STATE: run", FULL.made().run(6), -1);
        edges.is("BAD ahead of -11: comes", SOME.made().comes(0, 61), -1);
        edges.is("BAD ahead of -11: judge", SOME.made().judge(0, 1000), -1);
        edges.is("BAD ahead of -11: oak", SOME.made().oak(0, 5, 3), -1);
        edges.is("BAD ahead of -11: taken", SOME.made().taken(0, 8), -1);
        edges.is("BAD ahead of -12: sponsors", SOME.made().sponsors(2, 0, 17), -1);
        edges.is("BAD ahead of -12: taken", SOME.made().taken(2, 8), -1);
        edges.is("BAD ahead of -14: row", SOME.made().row(0, 5, -1), -1);
        edges.is("-11 ahead of -12: shift", SOME.made().shift(0, 0, 1, 0, 1), -11);
        edges.is("-11 ahead of -13: put", SOME.made().put(0, -1, 1), -11);
        edges.is("-12 ahead of -13: put", SOME.made().put(1, -1, 1), -12);
        edges.is("-12 ahead of -13: shift", SOME.made().shift(2, -1, 3, 0, 1), -12);
        edges.is("-12 ahead of 0 for a place below 0: sponsors", SOME.made().sponsors(2, -1, 1), -12);
    }
}
