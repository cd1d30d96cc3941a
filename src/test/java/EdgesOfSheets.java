/** The edges of promises 23 to 28, and of what Terms 3 and 4 say of sheets, the oak and draws. */
final class EdgesOfSheets extends EdgesOf {
    private static final int[] NO_PENCE = {-1, 100000, MIN, MAX};

    EdgesOfSheets(Edges edges) {
        super(edges);
    }

    @Override
    void all() {
        judged();
        judgeRefused();
        lapsFor();
        minutesFor();
        minutesForRefused();
        whose();
        whoseRefused();
        oak();
        underTheOak();
        oakRefused();
        drawnAheadOfEachLap();
        cutShort();
        drawnFields();
        drawnRefused();
    }

    /** Child 0: a lap a minute, 10 pence each; child 1: a lap in 5 minutes, 20 pence each. A sheet on shelf 0. */
    private static PennyALap withSheet(long... sheet) {
        PennyALap x = new PennyALap();
        x.child(1);
        x.child(5);
        x.sponsor(0, 10);
        x.sponsor(1, 20);
        Due.row(x, 0, 1, sheet);
        return x;
    }

    private void judged() {
        edges.term(3, "JUDGED by T: the first two that is not so (also a CHILD that is none, one that lacks); NOT.");
        edges.is("an empty sheet", withSheet().judge(0, 5), -2);
        edges.is("all is so", withSheet(0, 50, 1, 20).judge(0, 5), -2);
        edges.is("a penny too few in the first", withSheet(0, 49, 1, 20).judge(0, 5), 0);
        edges.is("a penny too much in the first", withSheet(0, 51, 1, 20).judge(0, 5), 0);
        edges.is("a penny too few in the second", withSheet(0, 50, 1, 19).judge(0, 5), 1);
        edges.is("a penny too much in the second", withSheet(0, 50, 1, 21).judge(0, 5), 1);
        edges.is("both: the first", withSheet(0, 51, 1, 21).judge(0, 5), 0);
        edges.is("a child that is none", withSheet(0, 50, 2, 0).judge(0, 5), 1);
        edges.is("a child below 0", withSheet(0, 50, -1, 0).judge(0, 5), 1);
        edges.is("a child far below 0", withSheet(0, 50, -32768, 0).judge(0, 5), 1);
        edges.is("the last two lacks its pence", withSheet(0, 50, 1).judge(0, 5), 1);
        edges.is("pence are no children", withSheet(0, 50, 1, 20, 0).judge(0, 5), 2);
        edges.is("a single child", withSheet(0).judge(0, 0), 0);
        edges.is("a child told twice", withSheet(0, 50, 0, 50).judge(0, 5), -2);
        edges.is("nothing at 0", withSheet(0, 0, 1, 0).judge(0, 0), -2);
        edges.is("below 0", withSheet(0, -50).judge(0, 5), 0);
        PennyALap x = withSheet();
        x.row(0, 1, 60);
        edges.is("thirty twos that are so", x.judge(0, 0), -2);
        x.put(0, 59, 1);
        edges.is("the thirtieth is not", x.judge(0, 0), 29);
        x.row(0, 1, 59);
        edges.is("the thirtieth lacks", x.judge(0, 0), 29);
        // 159984 is more than a short holds: its lowest bits are no pence that were paid
        PennyALap rich = new PennyALap();
        rich.child(1);
        for (int s = 0; s < 16; s++) {
            rich.sponsor(0, 200);
        }
        Due.row(rich, 0, 1, 0, 159984);
        edges.is("beyond a short", rich.judge(0, 99), 0);
        x = withSheet(0, 50);
        x.mend(0, 8, 40);
        edges.is("owed is not paid", x.judge(0, 5), 0);
        edges.is("paid at 4", withSheet(0, 40).judge(0, 4), -2);
        edges.is("nobody there", new PennyALap().judge(0, 5), -11);
    }

    private void judgeRefused() {
        edges.promise(23, "JUDGED. BAD, -11, -12 (no ROW of shorts); NOT.");
        for (int shelf : NO_SHELF) {
            edges.refused("judge(" + shelf + ", 5)", SOME, -1, y -> y.judge(shelf, 5));
        }
        for (int t : NO_T) {
            edges.refused("judge(3, " + t + ")", SOME, -1, y -> y.judge(3, t));
            edges.refused("nothing there, and bad: judge(0, " + t + ")", SOME, -1, y -> y.judge(0, t));
            edges.refused("of another kind, and bad: judge(2, " + t + ")", SOME, -1, y -> y.judge(2, t));
        }
        edges.refused("judge(0, 0)", SOME, -11, y -> y.judge(0, 0));
        edges.refused("judge(5, 999)", FRESH, -11, y -> y.judge(5, 999));
        for (int shelf : new int[] {1, 2, 4, 5}) {
            edges.refused("judge(" + shelf + ", 0)", SOME, -12, y -> y.judge(shelf, 0));
        }
        edges.refused("booleans: judge(0, 0)", FULL, -12, y -> y.judge(0, 0));
        edges.refused("judge(2, 0)", FULL, 29, y -> y.judge(2, 0));
        edges.is("T 999", withSheet(0, 990).judge(0, 999), -2);
        edges.is("T 0", withSheet(0, 0).judge(0, 0), -2);
    }

    private void lapsFor() {
        edges.term(3, "LAPS FOR: how many of 0 .. 99 LAPS of a CHILD make pence PAID just v; the least (NOT).");
        PennyALap x = withSheet();
        edges.is("v 0: how many", x.lapsFor(0, 0, 0), 1);
        edges.is("v 0: the least", x.lapsFor(0, 0, 1), 0);
        edges.is("v 990: how many", x.lapsFor(0, 990, 0), 1);
        edges.is("v 990: the least", x.lapsFor(0, 990, 1), 99);
        edges.is("v 1000: how many", x.lapsFor(0, 1000, 0), 0);
        edges.is("v 1000: the least", x.lapsFor(0, 1000, 1), -2);
        edges.is("v 9: how many", x.lapsFor(0, 9, 0), 0);
        edges.is("v 11: the least", x.lapsFor(0, 11, 1), -2);
        x.mend(0, 2, 0);
        edges.is("stops 0, v 990", x.lapsFor(0, 990, 1), 99);
        x.mend(0, 7, 100);
        edges.is("the top by 10 .. 99 laps: how many", x.lapsFor(0, 100, 0), 90);
        edges.is("the top by 10 .. 99 laps: the least", x.lapsFor(0, 100, 1), 10);
        x.mend(0, 8, 0);
        edges.is("an empty purse: how many", x.lapsFor(0, 0, 0), 100);
        edges.is("an empty purse: the least", x.lapsFor(0, 0, 1), 0);
        edges.promise(24, "LAPS FOR (v 0 .. 99999): how many (what 0), the least (1; NOT). BAD.");
        edges.is("v 99999: how many", x.lapsFor(1, 99999, 0), 0);
        edges.refused("lapsFor(0, 99999, 1)", SOME, -2, y -> y.lapsFor(0, 99999, 1));
        edges.refused("lapsFor(0, 1, 1)", FULL, -2, y -> y.lapsFor(0, 1, 1));
        for (int what = 0; what <= 1; what++) {
            int w = what;
            for (int v : NO_PENCE) {
                edges.refused("lapsFor(0, " + v + ", " + what + ")", SOME, -1, y -> y.lapsFor(0, v, w));
            }
            for (int child : NO_CHILD) {
                edges.refused("lapsFor(" + child + ", 0, " + what + ")", SOME, -1, y -> y.lapsFor(child, 0, w));
            }
            edges.refused("lapsFor(0, 0, " + what + ")", FRESH, -1, y -> y.lapsFor(0, 0, w));
        }
        for (int what : new int[] {-1, 2, MIN, MAX}) {
            edges.refused("lapsFor(0, 0, " + what + ")", SOME, -1, y -> y.lapsFor(0, 0, what));
            edges.refused("lapsFor(0, 99999, " + what + ")", SOME, -1, y -> y.lapsFor(0, 99999, what));
        }
    }

    private void minutesFor() {
        edges.term(3, "MINUTES FOR: the least T by which all is so; NOT.");
        edges.is("an empty sheet", withSheet().minutesFor(0), 0);
        edges.is("at once", withSheet(0, 0, 1, 0).minutesFor(0), 0);
        edges.is("one lap", withSheet(0, 10).minutesFor(0), 1);
        edges.is("the least of five minutes", withSheet(1, 20).minutesFor(0), 5);
        edges.is("both", withSheet(1, 20, 0, 90).minutesFor(0), 9);
        edges.is("never both", withSheet(1, 20, 0, 100).minutesFor(0), -2);
        edges.is("the last lap", withSheet(0, 990).minutesFor(0), 99);
        edges.is("the last lap of the other", withSheet(1, 1980).minutesFor(0), 495);
        edges.is("beyond the last lap", withSheet(0, 1000).minutesFor(0), -2);
        edges.is("between two laps", withSheet(0, 15).minutesFor(0), -2);
        edges.is("a child that is none", withSheet(2, 0).minutesFor(0), -2);
        edges.is("a child below 0", withSheet(-1, 0).minutesFor(0), -2);
        edges.is("one that lacks", withSheet(0, 0, 1).minutesFor(0), -2);
        PennyALap x = withSheet(0, 110);
        Due.law(x, "k=10?9;99");
        edges.is("T 999", x.minutesFor(0), 999);
        Due.law(x, "k=10?10;99");
        edges.is("T 1000 is none", x.minutesFor(0), -2);
        x.put(0, 1, 0);
        edges.is("the least of 99 minutes", x.minutesFor(0), 0);
        x.mend(0, 2, 0);
        x.put(0, 1, 10);
        edges.is("stops 0", x.minutesFor(0), -2);
    }

    private void minutesForRefused() {
        edges.promise(25, "MINUTES FOR. BAD, -11, -12; NOT.");
        for (int shelf : NO_SHELF) {
            edges.refused("minutesFor(" + shelf + ")", SOME, -1, y -> y.minutesFor(shelf));
        }
        edges.refused("minutesFor(0)", SOME, -11, y -> y.minutesFor(0));
        edges.refused("minutesFor(5)", FRESH, -11, y -> y.minutesFor(5));
        for (int shelf : new int[] {1, 2, 4, 5}) {
            edges.refused("minutesFor(" + shelf + ")", SOME, -12, y -> y.minutesFor(shelf));
        }
        edges.refused("ints of no elements: minutesFor(4)", FULL, -12, y -> y.minutesFor(4));
        edges.refused("minutesFor(3)", SOME, -2, y -> y.minutesFor(3));
        edges.refused("minutesFor(2)", FULL, -2, y -> y.minutesFor(2));
    }

    private void whose() {
        edges.term(3, "WHOSE: of one SPONSOR more of a CHILD with PER alone: the least PER (0 .. 200) by which pence PAID to it by T are just v; NOT.");
        PennyALap x = withSheet();
        edges.is("just what is paid", x.whose(0, 5, 50), 0);
        edges.is("a penny less", x.whose(0, 5, 49), -2);
        edges.is("a penny more", x.whose(0, 5, 51), -2);
        edges.is("a penny a lap more", x.whose(0, 5, 55), 1);
        edges.is("200 a lap more", x.whose(0, 5, 1050), 200);
        edges.is("201 a lap more", x.whose(0, 5, 1055), -2);
        edges.is("no lap: nothing", x.whose(0, 0, 0), 0);
        edges.is("no lap: a penny", x.whose(0, 0, 1), -2);
        x.mend(1, 8, 15);
        edges.is("paid, less than owed", x.whose(1, 5, 15), 0);
        edges.is("paid, less than owed: a penny more", x.whose(1, 5, 16), 1);
        // 99 laps: 990 are paid; a purse holds no more than 9999, which 102 pence a lap go beyond
        edges.is("100 a lap by 99 laps", x.whose(0, 999, 990 + 9900), 100);
        edges.is("101 a lap: just the purse", x.whose(0, 999, 990 + 9999), 101);
        edges.is("beyond the purse", x.whose(0, 999, 990 + 10098), -2);
        edges.is("98 laps: the least of those beyond the purse", x.whose(0, 98, 980 + 9999), 103);
        x.mend(0, 12, 30);
        edges.is("the prize does not matter", x.whose(0, 5, 55), 1);
        x.mend(0, 2, 2);
        edges.is("stops 2", x.whose(0, 5, 24), 2);
        edges.is("nobody came", x.count(1), 2);
        PennyALap none = new PennyALap();
        none.child(1);
        edges.is("no sponsors: v 0", none.whose(0, 999, 0), 0);
        edges.is("no sponsors: v 99", none.whose(0, 999, 99), 1);
    }

    private void whoseRefused() {
        edges.promise(26, "WHOSE (v 0 .. 99999). BAD; NOT.");
        for (int v : NO_PENCE) {
            edges.refused("whose(0, 5, " + v + ")", SOME, -1, y -> y.whose(0, 5, v));
        }
        for (int t : NO_T) {
            edges.refused("whose(0, " + t + ", 0)", SOME, -1, y -> y.whose(0, t, 0));
        }
        for (int child : NO_CHILD) {
            edges.refused("whose(" + child + ", 5, 0)", SOME, -1, y -> y.whose(child, 5, 0));
        }
        edges.refused("whose(0, 0, 0)", FRESH, -1, y -> y.whose(0, 0, 0));
        edges.refused("whose(0, 999, 99999)", SOME, -2, y -> y.whose(0, 999, 99999));
        edges.refused("whose(0, 0, 1)", FULL, -2, y -> y.whose(0, 0, 1));
        edges.is("sponsors are full: whose(1, 2, 200)", FULL.made().whose(1, 2, 200), 200);
        PennyALap rich = new PennyALap();
        rich.child(1);
        for (int s = 0; s < 10; s++) {
            rich.sponsor(0, 199);
        }
        // ten pay 199 a lap by 50 laps, the eleventh 10 a lap less a penny more: 99500 and 499 are none
        edges.is("v 99500", rich.whose(0, 50, 99500), 0);
        edges.is("v 99950", rich.whose(0, 50, 99950), 9);
        edges.is("v 99999", rich.whose(0, 50, 99999), -2);
    }

    private void oak() {
        edges.term(3, "OAK: a ROW of bytes: LAPS each CHILD says it has done, CHILD by CHILD (from 0 on; what lacks, is below 0, or beyond the CHILDREN:"
            + " nothing): who (bits) cannot have done so many in T");
        PennyALap x = withSheet();
        Due.row(x, 1, 0, 5, 1);
        edges.is("both can in 5", x.oak(1, 5, -1), 0);
        edges.is("neither can in 4", x.oak(1, 4, -1), 3);
        x.put(1, 0, 6);
        edges.is("child 0 cannot do a lap more", x.oak(1, 5, -1), 1);
        x.put(1, 0, 4);
        x.put(1, 1, 2);
        edges.is("child 1 cannot do a lap more", x.oak(1, 5, -1), 2);
        edges.is("child 1 can in 10", x.oak(1, 10, -1), 0);
        Due.row(x, 1, 0, 127);
        edges.is("what lacks says nothing", x.oak(1, 0, -1), 1);
        edges.is("what lacks, child 1", x.oak(1, 0, 1), 0);
        Due.row(x, 1, 0, -1, -128);
        edges.is("below 0", x.oak(1, 0, -1), 0);
        edges.is("below 0, child 0", x.oak(1, 0, 0), 0);
        Due.row(x, 1, 0, 0, 0, 9, 9, 9, 9, 9);
        edges.is("beyond the children", x.oak(1, 0, -1), 0);
        x.row(1, 0, 0);
        edges.is("an empty row", x.oak(1, 0, -1), 0);
        edges.is("an empty row, child 0", x.oak(1, 0, 0), 0);
        x.row(1, 0, 60);
        edges.is("a full row of no laps", x.oak(1, 0, -1), 0);
        Due.row(x, 1, 0, 99);
        edges.is("99 in 99", x.oak(1, 99, -1), 0);
        edges.is("99 in 98", x.oak(1, 98, -1), 1);
        x.put(1, 0, 100);
        edges.is("100 in 999: beyond stops", x.oak(1, 999, -1), 1);
        PennyALap six = new PennyALap();
        for (int c = 0; c < 6; c++) {
            six.child(1);
        }
        Due.row(six, 0, 0, 1, 1, 1, 1, 1, 1);
        edges.is("all six", six.oak(0, 0, -1), 63);
        edges.is("none of six", six.oak(0, 1, -1), 0);
    }

    private void underTheOak() {
        edges.term(3, "how many minutes under it CHILD c is, if it cheats alike: T less the minutes those LAPS take, as many as they would take all the same"
            + " (STOPS and 9999 do not matter; below 0 then; 0: it can, or says nothing).");
        PennyALap x = withSheet();
        Due.row(x, 1, 0, 6, 2);
        edges.is("6 in 5", x.oak(1, 5, 0), -1);
        edges.is("6 in 0", x.oak(1, 0, 0), -6);
        edges.is("6 in 6: it can", x.oak(1, 6, 0), 0);
        edges.is("6 in 7: it can", x.oak(1, 7, 0), 0);
        edges.is("2 of 5 minutes in 9", x.oak(1, 9, 1), -1);
        edges.is("2 of 5 minutes in 0", x.oak(1, 0, 1), -10);
        x.mend(0, 2, 5);
        edges.is("stops 5: 6 in 3", x.oak(1, 3, 0), -3);
        edges.is("stops 5: 6 in 10, it cannot", x.oak(1, 10, -1), 1);
        edges.is("stops 5: no minutes for 6 in 6", x.oak(1, 6, 0), 0);
        edges.is("stops 5: 6 in 8", x.oak(1, 8, 0), 2);
        x.mend(0, 2, 0);
        edges.is("stops 0: 6 in 3", x.oak(1, 3, 0), -3);
        x.mend(0, 2, 99);
        Due.row(x, 1, 0, 127);
        edges.is("127 in 0", x.oak(1, 0, 0), -127);
        Due.law(x, "99");
        edges.is("9999 does not matter", x.oak(1, 999, 0), 999 - 127 * 99);
        Due.law(x, "k-27");
        // laps 0 to 28 take 1 each, lap 29 takes 2 .. lap 126 takes 99
        edges.is("by k beyond 99", x.oak(1, 0, 0), -(29 + (2 + 99) * 98 / 2));
        Due.law(x, "m>9999?1;99");
        // 102 laps of 99 are 10098
        edges.is("by m beyond 9999", x.oak(1, 0, 0), -(102 * 99 + 25));
    }

    private void oakRefused() {
        edges.promise(27, "OAK: bits (child -1), minutes of a CHILD. BAD, -11, -12 (no ROW of bytes).");
        for (int child : new int[] {-1, 0}) {
            for (int shelf : NO_SHELF) {
                edges.refused("oak(" + shelf + ", 5, " + child + ")", SOME, -1, y -> y.oak(shelf, 5, child));
            }
            for (int t : NO_T) {
                edges.refused("oak(2, " + t + ", " + child + ")", SOME, -1, y -> y.oak(2, t, child));
                edges.refused("nothing there, and bad: oak(0, " + t + ", " + child + ")", SOME, -1, y -> y.oak(0, t, child));
            }
            edges.refused("oak(0, 5, " + child + ")", SOME, -11, y -> y.oak(0, 5, child));
            for (int shelf : new int[] {1, 3, 4, 5}) {
                edges.refused("oak(" + shelf + ", 5, " + child + ")", SOME, -12, y -> y.oak(shelf, 5, child));
            }
            edges.refused("booleans: oak(0, 5, " + child + ")", FULL, -12, y -> y.oak(0, 5, child));
        }
        for (int child : new int[] {-2, 3, 6, MIN, MAX}) {
            edges.refused("oak(2, 5, " + child + ")", SOME, -1, y -> y.oak(2, 5, child));
            edges.refused("nothing there, and bad: oak(0, 5, " + child + ")", SOME, -1, y -> y.oak(0, 5, child));
            edges.refused("of another kind, and bad: oak(3, 5, " + child + ")", SOME, -1, y -> y.oak(3, 5, child));
        }
        edges.refused("oak(0, 0, -1)", FRESH, -11, y -> y.oak(0, 0, -1));
        edges.refused("oak(0, 0, 0)", FRESH, -1, y -> y.oak(0, 0, 0));
        edges.is("T 999", SOME.made().oak(2, 999, -1), 0);
    }

    private static int next(int z) {
        return z * 1103515245 + 12345;
    }

    private void drawnAheadOfEachLap() {
        edges.term(4, "z = z * 1103515245 + 12345 (an int; SEED at first) ahead of each LAP (also of one that is not over by T), CHILD by CHILD: it is"
            + " cut short, if (z >>> 8) % 12 is below CUTS");
        PennyALap x = new PennyALap();
        x.child(2);
        x.child(2);
        x.mend(1, 3, 6);
        int cut = 0;
        int[] seeds = {0, 1, -1, 2, 99, 12345, -12345, 1 << 30, MIN, MAX, MIN + 1, MAX - 1, 77777777, -1103515245};
        for (int seed : seeds) {
            // in 1 minute child 0 does no lap, but a draw is made ahead of it; child 1 does one if it is cut short, and another is begun
            int z = next(next(seed));
            boolean first = (z >>> 8) % 12 < 6;
            edges.is("drawn(" + seed + ", 1001, 0)", x.drawn(seed, 1001, 0), first ? 1 : 0);
            z = next(next(first ? next(z) : z));
            boolean second = (z >>> 8) % 12 < 6;
            edges.is("drawn(" + seed + ", 2001, 0)", x.drawn(seed, 2001, 0), (first ? 1 : 0) + (second ? 1 : 0));
            cut += (first ? 1 : 0) + (second ? 1 : 0);
        }
        edges.is("some are cut short, some are not", cut > 5 && cut < 23 ? 1 : 0, 1);
        x.mend(0, 2, 0);
        for (int seed : seeds) {
            boolean first = (next(seed) >>> 8) % 12 < 6;
            edges.is("no draw beyond stops: drawn(" + seed + ", 1001, 0)", x.drawn(seed, 1001, 0), first ? 1 : 0);
        }
        x.mend(1, 2, 1);
        for (int seed : seeds) {
            int z = next(seed);
            boolean first = (z >>> 8) % 12 < 6;
            boolean second = (next(z) >>> 8) % 12 < 6;
            edges.is("one lap, one draw: drawn(" + seed + ", 2001, 0)", x.drawn(seed, 2001, 0), (first ? 1 : 0) + (second ? 1 : 0));
        }
    }

    private void cutShort() {
        edges.term(4, "it is cut short, if (z >>> 8) % 12 is below CUTS: it takes half (cut; 1 at least)");
        PennyALap x = new PennyALap();
        for (int cuts = 0; cuts <= 12; cuts++) {
            x = new PennyALap();
            x.child(2);
            x.mend(0, 3, cuts);
            for (int seed = -40; seed <= 40; seed++) {
                int rest = (next(seed * 26843545) >>> 8) % 12;
                edges.is(rest + " below " + cuts, x.drawn(seed * 26843545, 1001, 0), rest < cuts ? 1 : 0);
            }
        }
        int[][] halves = {{1, 1}, {2, 1}, {3, 1}, {4, 2}, {5, 2}, {29, 14}, {30, 15}};
        for (int[] half : halves) {
            x.mend(0, 0, half[0]);
            edges.is("half of " + half[0] + ", cut: 60 minutes", x.drawn(1, 1060, 0), 60 / half[1]);
            edges.is("half of " + half[0] + ", cut: just over", x.drawn(1, 1000 + half[1], 0), 1);
            edges.is("half of " + half[0] + ", cut: not yet", x.drawn(1, 1000 + half[1] - 1, 0), 0);
        }
        Due.law(x, "99");
        edges.is("half of 99", x.drawn(1, 1049, 0), 1);
        edges.is("half of 99, not yet", x.drawn(1, 1048, 0), 0);
        Due.law(x, "1");
        edges.is("half of 1 is 1", x.drawn(1, 1099, 0), 99);
        edges.is("99 at most", x.drawn(1, 1999, 0), 99);
    }

    private void drawnFields() {
        edges.term(4, "DRAWN: n fields (1 .. 30) of T minutes by a SEED");
        PennyALap x = withSheet();
        edges.is("n 1, T 0", x.drawn(5, 1000, 0), 0);
        edges.is("n 1, T 1", x.drawn(5, 1001, 0), 1);
        edges.is("n 1, T 999", x.drawn(5, 1999, 0), 198);
        edges.is("n 30, T 0", x.drawn(5, 30000, 0), 0);
        edges.is("n 30, T 1", x.drawn(5, 30001, 0), 30);
        edges.is("n 30, T 999", x.drawn(5, 30999, 0), 30 * 198);
        edges.is("n 30, T 999, pence", x.drawn(5, 30999, 1), 30 * 99 * 30);
        edges.term(4, "LAPS of all; PAID of all (less PRIZE as above).");
        x.mend(0, 12, 7);
        edges.is("T 0: nobody gets it", x.drawn(5, 30000, 1), 0);
        edges.is("T 1: in each field", x.drawn(5, 30001, 1), 30 * (10 - 7));
        edges.is("T 5: paid of all", x.drawn(5, 2005, 1), 2 * (50 + 20 - 7));
        edges.is("T 5: laps of all", x.drawn(5, 2005, 0), 2 * 6);
        PennyALap none = new PennyALap();
        none.mend(0, 12, 7);
        edges.is("nobody there: laps", none.drawn(5, 30999, 0), 0);
        edges.is("nobody there: pence", none.drawn(5, 30999, 1), 0);
    }

    private void drawnRefused() {
        edges.promise(28, "DRAWN (nt: 1000 n and T): LAPS (what 0), PAID (1). BAD.");
        for (int what = 0; what <= 1; what++) {
            int w = what;
            for (int nt : new int[] {-1, 0, 1, 999, 31000, 31999, -1000, -30000, MIN, MAX}) {
                edges.refused("drawn(1, " + nt + ", " + what + ")", SOME, -1, y -> y.drawn(1, nt, w));
                edges.refused("drawn(1, " + nt + ", " + what + ")", FRESH, -1, y -> y.drawn(1, nt, w));
            }
            for (int seed : new int[] {0, -1, MIN, MAX}) {
                edges.is("any seed: " + seed, SOME.made().drawn(seed, 30999, what) > 0 ? 1 : 0, 1);
            }
        }
        for (int what : new int[] {-1, 2, MIN, MAX}) {
            edges.refused("drawn(1, 1000, " + what + ")", SOME, -1, y -> y.drawn(1, 1000, what));
        }
    }
}
