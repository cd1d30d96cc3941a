/** The edges of promises 37 to 39, and of what Terms 5 says of bodies and acts. */
final class EdgesOfActs extends EdgesOf {
    private static final int RUNS = 0;
    private static final int OWES = 1;
    private static final int PAYS = 2;
    private static final int TELLS = 3;

    EdgesOfActs(Edges edges) {
        super(edges);
    }

    @Override
    void all() {
        bodiesCome();
        bodyRefused();
        wraps();
        fromAbove();
        trace();
        actRefused();
        traceRefused();
    }

    /** One body of each kind, 0 to 7, its number like its kind. */
    private static PennyALap oneOfEach() {
        PennyALap x = new PennyALap();
        for (int kind = 0; kind < 8; kind++) {
            x.body(kind);
        }
        return x;
    }

    private void bodiesCome() {
        edges.term(5, "BODIES 0 .. 49 are kept by call, of KINDS: 0 LAP; 1 PENNY under LAP; 2 SUM under LAP; 3 OAK under SUM; 4 UNCLE under PENNY;"
            + " 5 RAIN under OAK; 6 PRIZE under LAP; 7 SHEET under PRIZE.");
        PennyALap x = new PennyALap();
        for (int i = 0; i <= 49; i++) {
            edges.is("body " + i, x.body(i % 8), i);
            edges.is("count(4)", x.count(4), i + 1);
        }
        edges.is("body 50", x.body(0), -3);
        edges.is("count(4)", x.count(4), 50);
        edges.is("the first runs", x.act(0, RUNS, 5), 5);
        edges.is("the last runs", x.act(49, RUNS, 5), 57);
        x.keep(0, 49);
        edges.is("the last's kind", x.taken(0, 0), 1);
    }

    private void bodyRefused() {
        edges.promise(37, "A BODY of a KIND (0 .. 7) is kept: its number. BAD, FULL.");
        PennyALap x = new PennyALap();
        edges.is("kind 0", x.body(0), 0);
        edges.is("kind 7", x.body(7), 1);
        for (int kind : new int[] {-1, 8, MIN, MAX}) {
            edges.refused("body(" + kind + ")", FRESH, -1, y -> y.body(kind));
            edges.refused("body(" + kind + ")", SOME, -1, y -> y.body(kind));
            edges.refused("body(" + kind + ")", FULL, -1, y -> y.body(kind));
        }
        for (int kind : new int[] {0, 7}) {
            edges.refused("body(" + kind + ")", FULL, -3, y -> y.body(kind));
        }
    }

    private void wraps() {
        edges.term(5, "ACTS with x (an int that wraps): 0 runs, 1 owes, 2 pays, 3 tells; n its number.");
        PennyALap x = oneOfEach();
        edges.is("LAP runs, n 0", x.act(0, RUNS, MAX), MAX);
        edges.is("LAP owes: twice the greatest", x.act(0, OWES, MAX), -2);
        edges.is("LAP owes: twice the least", x.act(0, OWES, MIN), 0);
        edges.is("LAP pays, n 0", x.act(0, PAYS, MIN), MIN);
        edges.is("LAP tells: -2 less 1", x.act(0, TELLS, MAX), -3);
        edges.is("PENNY runs: the greatest and 1 and 3", x.act(1, RUNS, MAX), MIN + 3);
        edges.is("SUM owes: less twice the greatest and 2", x.act(2, OWES, MAX), -((MAX + 2) * 2));
        edges.is("SUM owes: less the least", x.act(2, OWES, (1 << 30) - 2), MIN);
        edges.is("OAK owes: x and 1 wraps", x.act(3, OWES, MAX), -((MIN + 3) * 2));
        edges.is("OAK pays: three times the greatest", x.act(3, PAYS, MAX ^ 3), MAX - 2);
        edges.is("UNCLE tells", x.act(4, TELLS, MAX), ((MAX + 7) * 2 - 5) ^ 5);
        edges.is("RAIN pays: less 7", x.act(5, PAYS, MIN ^ 5), MIN * 3 - 7);
        edges.is("RAIN tells: 1 more", x.act(5, TELLS, MAX), -((MIN + 5) * 2) - ((1 ^ 5) * 3 - 7) + 1);
        edges.is("PRIZE runs: twice", x.act(6, RUNS, MAX), (MAX + 6) * 2);
        edges.is("SHEET runs: twice, less 1", x.act(7, RUNS, MIN), (MIN + 7) * 2 - 1);
    }

    private void fromAbove() {
        edges.term(5, "runs(..) and so on: the body of its own KIND, or of the next KIND above that has one; super: from the KIND above the body's on.");
        PennyALap x = oneOfEach();
        int[][] firsts = {{1, 10, 11, 2}, {20, 10, 11, 2}, {1, 30, 11, 2}, {1, 41, 40, 2}, {20, 10, 11, 50}, {1, 41, 60, 61}, {70, 10, 11, 2},
            {81, 80, 11, 2}};
        int[][] counts = {{1, 2, 1, 4}, {2, 3, 1, 5}, {1, 3, 1, 5}, {1, 4, 2, 7}, {2, 3, 1, 6}, {1, 4, 4, 10}, {2, 3, 1, 5}, {3, 6, 1, 8}};
        for (int kind = 0; kind < 8; kind++) {
            for (int act = RUNS; act <= TELLS; act++) {
                x.act(kind, act, 5);
                edges.is("kind " + kind + ", act " + act + ": the first", x.trace(0), firsts[kind][act]);
                edges.is("kind " + kind + ", act " + act + ": how many", x.count(5), counts[kind][act]);
            }
        }
        edges.is("RAIN's super.pays is OAK's, whose super is LAP's", x.act(5, PAYS, 1), (1 ^ 5) * 3 - 7);
        edges.is("SHEET's super.owes is LAP's, which runs as SHEET does", x.act(7, OWES, 1), (8 * 2 - 1) * 2 + (2 ^ 7));
    }

    private void trace() {
        edges.term(5, "THE TRACE: numbers of the bodies that ran in the latest act(), as they began; the first 24 are kept.");
        PennyALap x = oneOfEach();
        edges.is("no act() yet", x.trace(0), -1);
        x.act(5, TELLS, 5);
        // the longest trace there is, so that the first 24 are all there are
        int[] longest = {61, 2, 41, 30, 10, 1, 60, 40, 11, 1};
        for (int i = 0; i < longest.length; i++) {
            edges.is("trace(" + i + ")", x.trace(i), longest[i]);
        }
        edges.is("count(5)", x.count(5), 10);
        edges.is("behind the last of it", x.trace(10), -1);
        edges.is("the 24th", x.trace(23), -1);
        x.act(0, RUNS, 5);
        edges.is("the latest act() alone", x.trace(0), 1);
        edges.is("nothing of the one ahead", x.trace(1), -1);
        for (int kind = 0; kind < 8; kind++) {
            for (int act = RUNS; act <= TELLS; act++) {
                x.act(kind, act, 5);
                edges.is("all are kept: the last of kind " + kind + ", act " + act, x.trace(x.count(5) - 1) > 0 ? 1 : 0, 1);
                edges.is("and no more", x.trace(x.count(5)), -1);
            }
        }
    }

    private void actRefused() {
        edges.promise(38, "An ACT (0 .. 3) of a BODY with x. 0, and no TRACE then: no such BODY, ACT.");
        edges.is("act(4, 0, 5), the last body", SOME.made().act(4, RUNS, 5), 9);
        edges.is("act(0, 3, 5), the last act", SOME.made().act(0, TELLS, 5) != 0 ? 1 : 0, 1);
        int[][] none = {{-1, 0}, {5, 0}, {50, 0}, {MIN, 0}, {MAX, 0}, {0, -1}, {0, 4}, {0, MIN}, {0, MAX}, {5, 4}};
        for (int[] b : none) {
            String call = "act(" + b[0] + ", " + b[1] + ", 7)";
            PennyALap x = SOME.made();
            edges.is("a trace ahead of " + call, x.trace(0) > 0 ? 1 : 0, 1);
            edges.is(call, x.act(b[0], b[1], 7), 0);
            edges.is(call + ": no trace then", x.trace(0), -1);
            edges.is(call + ": count(5)", x.count(5), 0);
            // where there was no trace, nothing at all is new
            edges.refused(call, FRESH, 0, y -> y.act(b[0], b[1], 7));
        }
        edges.is("act(50, 0, 7) of fifty", FULL.made().act(50, RUNS, 7), 0);
    }

    private void traceRefused() {
        edges.promise(39, "THE TRACE's i-th body. BAD.");
        edges.is("the last", SOME.made().trace(9), 1);
        for (int i : new int[] {-1, 10, 23, 24, 25, MIN, MAX}) {
            edges.refused("trace(" + i + ")", SOME, -1, y -> y.trace(i));
        }
        for (int i : new int[] {0, 23, 24}) {
            edges.refused("trace(" + i + ")", FRESH, -1, y -> y.trace(i));
        }
    }
}
