/** The edges of promises 1 to 6, and of what Terms 1 and 5 say of children and sponsors. */
final class EdgesOfChildren extends EdgesOf {
    private static final int[] LEAST = {1, 0, 0, 0, 0, 0, 0, 0, 0, 0, 0, 1, 0};
    private static final int[] MOST = {30, 9, 99, 12, 200, 999, 99, 9999, 9999, 9, 12, 4, 999};

    EdgesOfChildren(Edges edges) {
        super(edges);
    }

    @Override
    void all() {
        newObject();
        numbersOfComers();
        ranges();
        owing();
        child();
        sponsor();
        sponsorsCome();
        sponsorsEnd();
        sponsorsRefused();
        mendRanges();
        mendOthers();
        ofMended();
        ofRest();
    }

    private void newObject() {
        edges.promise(1, "A field, nobody there.");
        PennyALap x = new PennyALap();
        for (int what = 0; what <= 5; what++) {
            edges.is("count(" + what + ")", x.count(what), 0);
            edges.is("led(" + what + ")", x.led(what), what == 5 ? -1 : 0);
        }
        edges.is("of(0, 0): no child", x.of(0, 0), -1);
        edges.is("of(0, 4): no sponsor", x.of(0, 4), -1);
        edges.is("undo()", x.undo(), -5);
        edges.is("redo()", x.redo(), -5);
        edges.is("back()", x.back(), -5);
        edges.is("act(0, 0, 1)", x.act(0, 0, 1), 0);
        edges.is("trace(0)", x.trace(0), -1);
        edges.is("law() of an empty tape", x.law(), -100);
        edges.is("laps(-1, 999, 0)", x.laps(-1, 999, 0), 0);
        edges.is("most(999, 0)", x.most(999, 0), 0);
        edges.is("field(300, -1)", x.field(300, -1), 0);
        edges.is("drawn(1, 30999, 1)", x.drawn(1, 30999, 1), 0);
        PennyALap other = new PennyALap();
        other.child(5);
        other.row(0, 0, 1);
        edges.is("count(0) beside another object with a child", x.count(0), 0);
        edges.is("element(0, 0) beside another object with a row", x.element(0, 0), Long.MIN_VALUE);
    }

    private void numbersOfComers() {
        edges.term(1, "CHILDREN 0 .. 5, as they come");
        PennyALap x = new PennyALap();
        for (int c = 0; c <= 5; c++) {
            edges.is("of child " + c + " ahead of it", x.of(c, 0), -1);
            edges.is("child " + c, x.child(c + 1), c);
            edges.is("of child " + c, x.of(c, 0), c + 1);
        }
        edges.is("of(6, 0)", x.of(6, 0), -1);
        edges.term(1, "SPONSORS 0 .. 15, as they come, each of a CHILD");
        for (int s = 0; s <= 15; s++) {
            edges.is("of sponsor " + s + " ahead of it", x.of(s, 4), -1);
            edges.is("sponsor " + s, x.sponsor(s % 6, s), s);
            edges.is("child of sponsor " + s, x.of(s, 13), s % 6);
        }
        edges.is("of(16, 4)", x.of(16, 4), -1);
    }

    private void ranges() {
        range("PACE (1 .. 30)", 0, -1);
        range("TIRES (0 .. 9; 0 at first)", 1, 0);
        range("STOPS (0 .. 99; 99 at first: no more LAPS than that)", 2, 99);
        PennyALap x = new PennyALap();
        x.child(1);
        edges.is("99 at first, laps(0, 999, 0)", x.laps(0, 999, 0), 99);
        x.mend(0, 2, 98);
        edges.is("98, laps(0, 999, 0)", x.laps(0, 999, 0), 98);
        x.mend(0, 2, 0);
        edges.is("0, laps(0, 999, 0)", x.laps(0, 999, 0), 0);
        range("CUTS (0 .. 12; 0 at first)", 3, 0);
        range("RAIN (0 .. 9; 0 at first)", 9, 0);
        range("PER (0 .. 200 pence a LAP)", 4, -1);
        range("FLAT (0 .. 999; 0 at first)", 5, 0);
        range("NEED (0 .. 99; 10 at first)", 6, 10);
        range("TOP (0 .. 9999; 0, as at first: none)", 7, 0);
        range("PURSE (0 .. 9999; 9999 at first)", 8, 9999);
        range("PROMPT (0 .. 12; 8 at first)", 10, 8);
        range("REMINDED (1 .. 4; 2 at first)", 11, 2);
        range("PRIZE (0 .. 999; 0 at first)", 12, 0);
    }

    /** The least and the most are taken, what is just beyond is not. */
    private void range(String sentence, int what, int atFirst) {
        edges.term(1, sentence);
        PennyALap x = new PennyALap();
        x.child(7);
        x.sponsor(0, 9);
        if (atFirst >= 0) {
            edges.is("at first, of(0, " + what + ")", x.of(0, what), atFirst);
        }
        for (int v : new int[] {MOST[what], LEAST[what]}) {
            edges.is("a range's end is taken: mend(0, " + what + ", " + v + ")", x.mend(0, what, v) >= 0 ? 1 : 0, 1);
            edges.is("of(0, " + what + ")", x.of(0, what), v);
        }
        for (int v : new int[] {LEAST[what] - 1, MOST[what] + 1, MIN, MAX}) {
            edges.refused("mend(0, " + what + ", " + v + ")", SOME, -1, y -> y.mend(0, what, v));
        }
    }

    private void owing() {
        edges.term(1, "for NEED (0 .. 99; 10 at first) LAPS or more");
        PennyALap x = new PennyALap();
        x.child(1);
        x.sponsor(0, 0);
        x.mend(0, 5, 999);
        edges.is("a lap too few", x.owes(0, 9, 0), 0);
        edges.is("just so many", x.owes(0, 10, 0), 999);
        x.mend(0, 6, 99);
        edges.is("need 99, by 98", x.owes(0, 98, 0), 0);
        edges.is("need 99, by 99", x.owes(0, 99, 0), 999);
        x.mend(0, 6, 0);
        edges.is("need 0, by none", x.owes(0, 0, 0), 999);
        edges.term(1, "TOP (0 .. 9999; 0, as at first: none)");
        x.mend(0, 4, 200);
        edges.is("top 0 is none", x.owes(0, 99, 0), 20799);
        x.mend(0, 7, 1);
        edges.is("top 1", x.owes(0, 99, 0), 1);
        x.mend(0, 7, 9999);
        edges.is("top 9999", x.owes(0, 99, 0), 9999);
        edges.is("top 9999 just reached", x.owes(0, 45, 0), 9999);
        edges.is("below the top", x.owes(0, 44, 0), 9799);
    }

    private void child() {
        edges.promise(2, "A CHILD: its number. BAD, FULL: 6.");
        PennyALap x = new PennyALap();
        edges.is("child(1)", x.child(1), 0);
        edges.is("child(30)", x.child(30), 1);
        for (int c = 2; c < 6; c++) {
            edges.is("child(15)", x.child(15), c);
        }
        edges.is("a seventh", x.child(15), -3);
        edges.is("count(0)", x.count(0), 6);
        for (int pace : new int[] {0, -1, 31, MIN, MAX}) {
            edges.refused("child(" + pace + ")", FRESH, -1, y -> y.child(pace));
            edges.refused("child(" + pace + ")", SOME, -1, y -> y.child(pace));
            edges.refused("child(" + pace + ")", FULL, -1, y -> y.child(pace));
        }
        edges.refused("child(1)", FULL, -3, y -> y.child(1));
        edges.refused("child(30)", FULL, -3, y -> y.child(30));
    }

    private void sponsor() {
        edges.promise(3, "A SPONSOR of a CHILD: its number. BAD, FULL: 16.");
        PennyALap x = new PennyALap();
        x.child(3);
        edges.is("sponsor(0, 0)", x.sponsor(0, 0), 0);
        edges.is("sponsor(0, 200)", x.sponsor(0, 200), 1);
        for (int s = 2; s < 16; s++) {
            edges.is("sponsor(0, 5)", x.sponsor(0, 5), s);
        }
        edges.is("a seventeenth", x.sponsor(0, 5), -3);
        edges.is("count(1)", x.count(1), 16);
        edges.refused("sponsor(0, 5)", FRESH, -1, y -> y.sponsor(0, 5));
        int[][] bad = {{-1, 5}, {6, 5}, {MIN, 5}, {MAX, 5}, {0, -1}, {0, 201}, {0, MIN}, {0, MAX}, {-1, -1}};
        for (int[] b : bad) {
            edges.refused("sponsor(" + b[0] + ", " + b[1] + ")", SOME, -1, y -> y.sponsor(b[0], b[1]));
            edges.refused("sponsor(" + b[0] + ", " + b[1] + ")", FULL, -1, y -> y.sponsor(b[0], b[1]));
        }
        edges.refused("sponsor(3, 5)", SOME, -1, y -> y.sponsor(3, 5));
        edges.refused("sponsor(5, 200)", FULL, -3, y -> y.sponsor(5, 200));
    }

    /** Two children, and a row of shorts on shelf 0. */
    private static PennyALap withRow(long... row) {
        PennyALap x = new PennyALap();
        x.child(3);
        x.child(4);
        Due.row(x, 0, 1, row);
        return x;
    }

    private void sponsorsCome() {
        edges.promise(4, "SPONSORS FROM A ROW on a SHELF, from place i on, n (1 .. 16) of them: how many came (0 with i below 0).");
        PennyALap x = withRow(1, 200, 999, 0, 0, 0, 1, 5, 7);
        edges.is("n 1", x.sponsors(0, 0, 1), 1);
        edges.is("its child", x.of(0, 13), 1);
        edges.is("its per, the most", x.of(0, 4), 200);
        edges.is("its flat, the most", x.of(0, 5), 999);
        edges.is("its need", x.of(0, 6), 10);
        edges.is("its purse", x.of(0, 8), 9999);
        edges.is("from place 3 on, n 16", x.sponsors(0, 3, 16), 2);
        edges.is("per, the least", x.of(1, 4), 0);
        edges.is("the last one's flat", x.of(2, 5), 7);
        PennyALap y = new PennyALap();
        y.child(1);
        y.row(5, 1, 60);
        edges.is("n 16 of 20 threes", y.sponsors(5, 0, 16), 16);
        edges.is("count(1)", y.count(1), 16);
        for (int i : new int[] {-1, -3, MIN}) {
            edges.refused("sponsors(3, " + i + ", 1)", SOME, 0, z -> z.sponsors(3, i, 1));
            edges.is("a row of three", withRow(0, 1, 2).sponsors(0, i, 1), 0);
        }
        edges.promise(4, "how many came");
        edges.is("those that came, not n", withRow(0, 1, 2, 0, 1, 2).sponsors(0, 0, 16), 2);
        edges.is("n, not all", withRow(0, 1, 2, 0, 1, 2, 0, 1, 2).sponsors(0, 0, 2), 2);
    }

    private void sponsorsEnd() {
        edges.term(5, "SPONSORS FROM A ROW of shorts, from place i on: by threes the CHILD (one that is there), PER, FLAT: n of them; it ends"
            + " where the row is missing, ends (within a three, too), one is not as it may be, or SPONSORS are FULL: those ahead came.");
        edges.refused("the row is missing: sponsors(0, 0, 16)", SOME, 0, y -> y.sponsors(0, 0, 16));
        edges.refused("the row is missing: sponsors(0, 0, 1)", FRESH, 0, y -> y.sponsors(0, 0, 1));
        edges.is("a row of none", withRow().sponsors(0, 0, 1), 0);
        edges.is("it ends at once", withRow(0, 1, 2).sponsors(0, 3, 1), 0);
        edges.is("it ended before", withRow(0, 1, 2).sponsors(0, 4, 1), 0);
        edges.is("far beyond", withRow(0, 1, 2).sponsors(0, MAX, 16), 0);
        edges.is("within a three: one of three", withRow(0).sponsors(0, 0, 1), 0);
        edges.is("within a three: two of three", withRow(0, 1).sponsors(0, 0, 1), 0);
        edges.is("just a three", withRow(0, 1, 2).sponsors(0, 0, 1), 1);
        edges.is("a place within a three", withRow(9, 0, 1, 2).sponsors(0, 1, 2), 1);
        PennyALap x = withRow(0, 11, 12, 1, 21, 22, 0, 31);
        edges.is("within the last three", x.sponsors(0, 0, 3), 2);
        edges.is("those ahead came: the first", x.of(0, 4), 11);
        edges.is("those ahead came: the second", x.of(1, 5), 22);
        edges.is("and no other", x.count(1), 2);
        long[][] amiss = {{2, 5, 5}, {-1, 5, 5}, {0, 201, 5}, {0, -1, 5}, {0, 5, 1000}, {0, 5, -1}, {Short.MIN_VALUE, 5, 5},
            {Short.MAX_VALUE, 5, 5}, {0, Short.MAX_VALUE, 5}, {0, 5, Short.MIN_VALUE}};
        for (long[] a : amiss) {
            PennyALap y = withRow(1, 8, 9, a[0], a[1], a[2], 1, 8, 9);
            String one = a[0] + ", " + a[1] + ", " + a[2];
            edges.is("not as it may be: " + one, y.sponsors(0, 0, 3), 1);
            edges.is("those ahead of " + one + " came", y.count(1), 1);
            edges.is("as it was told ahead of " + one, y.of(0, 4), 8);
            edges.is("the first is " + one, y.sponsors(0, 3, 2), 0);
        }
        edges.is("a child that is not there yet", withRow(2, 5, 5).sponsors(0, 0, 1), 0);
        edges.is("the last child that is there", withRow(1, 5, 5).sponsors(0, 0, 1), 1);
        PennyALap z = withRow(new long[60]);
        z.sponsors(0, 0, 14);
        edges.is("full behind two more", z.sponsors(0, 0, 3), 2);
        edges.is("those ahead came", z.count(1), 16);
        edges.refused("full: sponsors(2, 0, 16)", FULL, 0, y -> y.sponsors(2, 0, 16));
    }

    private void sponsorsRefused() {
        edges.promise(4, "BAD, -12 (no ROW of shorts; a SHELF that holds nothing is missing).");
        int[][] bad = {{-1, 0, 1}, {6, 0, 1}, {MIN, 0, 1}, {MAX, 0, 1}, {3, 0, 0}, {3, 0, 17}, {3, 0, -1}, {3, 0, MIN}, {3, 0, MAX},
            {1, 0, 0}, {2, 0, 17}, {0, 0, 0}, {3, -1, 0}};
        for (int[] b : bad) {
            edges.refused("sponsors(" + b[0] + ", " + b[1] + ", " + b[2] + ")", SOME, -1, y -> y.sponsors(b[0], b[1], b[2]));
        }
        for (int shelf : new int[] {1, 2, 4, 5}) {
            edges.refused("a body, bytes, ints, longs: sponsors(" + shelf + ", 0, 1)", SOME, -12, y -> y.sponsors(shelf, 0, 1));
        }
        edges.refused("booleans: sponsors(0, 0, 16)", FULL, -12, y -> y.sponsors(0, 0, 16));
        edges.refused("ints of no elements: sponsors(4, 0, 1)", FULL, -12, y -> y.sponsors(4, 0, 1));
        edges.refused("nothing: sponsors(0, 0, 16)", SOME, 0, y -> y.sponsors(0, 0, 16));
    }

    private void mendRanges() {
        edges.promise(5, "PACE (what 0), TIRES (1), STOPS (2), CUTS (3) of a CHILD, PER (4), FLAT (5), NEED (6), TOP (7), PURSE (8) of a"
            + " SPONSOR, RAIN (9), PROMPT (10), REMINDED (11), PRIZE (12; number 0 for these, another: BAD) becomes v: what it was. BAD.");
        for (int what = 0; what <= 12; what++) {
            int number = what <= 8 ? 1 : 0;
            int last = what <= 3 ? 2 : what <= 8 ? 3 : 0;
            PennyALap x = SOME.made();
            int was = x.of(number, what);
            String call = "mend(" + number + ", " + what + ", ";
            edges.is(call + "the least)", x.mend(number, what, LEAST[what]), was);
            edges.is(call + "the most)", x.mend(number, what, MOST[what]), LEAST[what]);
            edges.is(call + "the same)", x.mend(number, what, MOST[what]), MOST[what]);
            edges.is("of(" + number + ", " + what + ")", x.of(number, what), MOST[what]);
            for (int amiss : new int[] {-1, last + 1, MIN, MAX}) {
                int w = what;
                edges.refused("mend(" + amiss + ", " + what + ", the most)", SOME, -1, y -> y.mend(amiss, w, MOST[w]));
            }
            for (int v : new int[] {LEAST[what] - 1, MOST[what] + 1}) {
                int w = what;
                edges.refused(call + v + ")", SOME, -1, y -> y.mend(number, w, v));
            }
        }
    }

    private void mendOthers() {
        edges.promise(5, "(12; number 0 for these, another: BAD)");
        for (int what = 9; what <= 12; what++) {
            int w = what;
            edges.is("number 0 with nobody there", new PennyALap().mend(0, what, 1) >= 0 ? 1 : 0, 1);
            for (int number : new int[] {1, 2, 5, 15, -1}) {
                edges.refused("mend(" + number + ", " + what + ", 1)", FULL, -1, y -> y.mend(number, w, 1));
            }
        }
        edges.promise(5, "becomes v: what it was. BAD.");
        for (int what : new int[] {-1, 13, 14, 15, 16, MIN, MAX}) {
            edges.refused("mend(0, " + what + ", 1)", SOME, -1, y -> y.mend(0, what, 1));
            edges.refused("mend(1, " + what + ", 1)", SOME, -1, y -> y.mend(1, what, 1));
        }
        for (int what = 0; what <= 8; what++) {
            int w = what;
            edges.refused("mend(0, " + what + ", the least) of nobody", FRESH, -1, y -> y.mend(0, w, LEAST[w]));
            edges.refused("mend(" + (w <= 3 ? 6 : 16) + ", " + what + ", the least)", FULL, -1,
                y -> y.mend(w <= 3 ? 6 : 16, w, LEAST[w]));
        }
    }

    private void ofMended() {
        edges.promise(6, "As of mend() (0 to 12)");
        for (int what = 0; what <= 12; what++) {
            int last = what <= 3 ? 2 : what <= 8 ? 3 : 0;
            PennyALap x = SOME.made();
            edges.is("of(" + last + ", " + what + ")", x.of(last, what) >= 0 ? 1 : 0, 1);
            x.mend(last, what, 1);
            edges.is("of(" + last + ", " + what + ") when mended", x.of(last, what), 1);
            for (int number : new int[] {-1, last + 1, MIN, MAX}) {
                int w = what;
                edges.refused("of(" + number + ", " + what + ")", SOME, -1, y -> y.of(number, w));
            }
        }
        edges.is("of(0, 12) with nobody there", new PennyALap().of(0, 12), 0);
        edges.is("of(0, 3) with nobody there", new PennyALap().of(0, 3), -1);
        edges.is("of(0, 8) with nobody there", new PennyALap().of(0, 8), -1);
    }

    private void ofRest() {
        edges.promise(6, "of a SPONSOR 13 its CHILD, 14 what it has PAID; of a CHILD 15 LAPS, 16 minutes in deed. BAD.");
        PennyALap x = SOME.made();
        edges.is("of(3, 13)", x.of(3, 13), 2);
        edges.is("of(0, 14)", x.of(0, 14), 20);
        edges.is("of(1, 15)", x.of(1, 15), 3);
        edges.is("of(0, 16): 4 and 4", x.of(0, 16), 8);
        for (int what = 13; what <= 16; what++) {
            int w = what;
            int last = what <= 14 ? 3 : 2;
            edges.is("of(" + last + ", " + what + ")", x.of(last, what) >= 0 ? 1 : 0, 1);
            for (int number : new int[] {-1, last + 1, MIN, MAX}) {
                edges.refused("of(" + number + ", " + what + ")", SOME, -1, y -> y.of(number, w));
            }
            edges.refused("of(0, " + what + ")", FRESH, -1, y -> y.of(0, w));
        }
        for (int what : new int[] {-1, 17, MIN, MAX}) {
            edges.refused("of(0, " + what + ")", SOME, -1, y -> y.of(0, what));
            edges.refused("of(1, " + what + ")", SOME, -1, y -> y.of(1, what));
        }
    }
}
