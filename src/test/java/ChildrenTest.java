/** Promises 1 to 6: a new object, child, sponsor, sponsors, mend, of. */
public final class ChildrenTest {
    private static final Due due = new Due();
    private static final int[] LEAST = {1, 0, 0, 0, 0, 0, 0, 0, 0, 0, 0, 1, 0};
    private static final int[] MOST = {30, 9, 99, 12, 200, 999, 99, 9999, 9999, 9, 12, 4, 999};
    private static final int[] AT_FIRST = {4, 0, 99, 0, 7, 0, 10, 0, 9999, 0, 8, 2, 0};

    public static void main(String[] args) {
        newObject();
        child();
        sponsor();
        sponsors();
        mend();
        of();
        due.end();
    }

    private static void newObject() {
        PennyALap x = new PennyALap();
        for (int what = 0; what <= 5; what++) {
            due.is("new, count(" + what + ")", x.count(what), 0);
        }
        for (int what = 0; what <= 4; what++) {
            due.is("new, led(" + what + ")", x.led(what), 0);
        }
        for (int what = 9; what <= 12; what++) {
            due.is("new, of(0, " + what + ")", x.of(0, what), AT_FIRST[what]);
        }
        for (int shelf = 0; shelf < 6; shelf++) {
            due.is("new, taken(" + shelf + ", 0)", x.taken(shelf, 0), -11);
            due.is("new, put(" + shelf + ", 0, 1)", x.put(shelf, 0, 1), -11);
        }
        due.is("new, laps(-1, 999, 0)", x.laps(-1, 999, 0), 0);
        due.is("new, back()", x.back(), PennyALap.STATE);
    }

    private static void child() {
        PennyALap x = new PennyALap();
        due.is("child(0)", x.child(0), -1);
        due.is("child(-1)", x.child(-1), -1);
        due.is("child(31)", x.child(31), -1);
        due.is("child(MAX)", x.child(Integer.MAX_VALUE), -1);
        due.is("count(0) behind bad ones", x.count(0), 0);
        for (int c = 0; c < 6; c++) {
            due.is("child " + c, x.child(c == 0 ? 1 : 25 + c), c);
        }
        due.is("a seventh child", x.child(5), -3);
        due.is("a seventh child that is bad too", x.child(31), -1);
        due.is("count(0)", x.count(0), 6);
        due.is("of(0, 0)", x.of(0, 0), 1);
        due.is("of(5, 0)", x.of(5, 0), 30);
    }

    private static void sponsor() {
        PennyALap x = new PennyALap();
        due.is("sponsor(0, 1) of nobody", x.sponsor(0, 1), -1);
        x.child(3);
        x.child(4);
        due.is("sponsor(2, 1)", x.sponsor(2, 1), -1);
        due.is("sponsor(-1, 1)", x.sponsor(-1, 1), -1);
        due.is("sponsor(0, -1)", x.sponsor(0, -1), -1);
        due.is("sponsor(0, 201)", x.sponsor(0, 201), -1);
        due.is("count(1)", x.count(1), 0);
        for (int s = 0; s < 16; s++) {
            due.is("sponsor " + s, x.sponsor(s % 2, s == 0 ? 0 : s == 15 ? 200 : s), s);
        }
        due.is("a seventeenth", x.sponsor(0, 1), -3);
        due.is("a seventeenth that is bad too", x.sponsor(2, 1), -1);
        due.is("count(1)", x.count(1), 16);
        due.is("of(0, 4)", x.of(0, 4), 0);
        due.is("of(15, 4)", x.of(15, 4), 200);
        due.is("of(15, 13)", x.of(15, 13), 1);
        due.is("of(14, 13)", x.of(14, 13), 0);
    }

    private static void sponsors() {
        PennyALap x = new PennyALap();
        x.child(3);
        x.child(4);
        due.is("sponsors(-1, 0, 1)", x.sponsors(-1, 0, 1), -1);
        due.is("sponsors(6, 0, 1)", x.sponsors(6, 0, 1), -1);
        due.is("sponsors(0, 0, 0)", x.sponsors(0, 0, 0), -1);
        due.is("sponsors(0, 0, 17)", x.sponsors(0, 0, 17), -1);
        due.is("from a row that is missing", x.sponsors(0, 0, 16), 0);
        x.body(0);
        x.keep(0, 0);
        due.is("from a body", x.sponsors(0, 0, 1), -12);
        Due.row(x, 0, 2, 0, 1, 2);
        due.is("from ints", x.sponsors(0, 0, 1), -12);
        due.is("from ints, below 0", x.sponsors(0, -1, 1), -12);
        due.is("from ints, none", x.sponsors(0, 0, 0), -1);
        Due.row(x, 1, 1, 1, 200, 999, 0, 0, 0, 1, 5, 7, 1, 6);
        due.is("below 0", x.sponsors(1, -1, 1), 0);
        due.is("least int", x.sponsors(1, Integer.MIN_VALUE, 16), 0);
        due.is("beyond the end", x.sponsors(1, 11, 1), 0);
        due.is("far beyond", x.sponsors(1, Integer.MAX_VALUE, 16), 0);
        due.is("within a three at once", x.sponsors(1, 9, 1), 0);
        due.is("count(1) yet", x.count(1), 0);
        due.is("two of three", x.sponsors(1, 0, 2), 2);
        due.is("its child", x.of(0, 13), 1);
        due.is("its per", x.of(0, 4), 200);
        due.is("its flat", x.of(0, 5), 999);
        due.is("its need", x.of(0, 6), 10);
        due.is("its top", x.of(0, 7), 0);
        due.is("its purse", x.of(0, 8), 9999);
        due.is("till it ends", x.sponsors(1, 3, 16), 2);
        due.is("the last one's flat", x.of(3, 5), 7);
        due.is("no changes", x.count(3), 0);
        long[][] amiss = {{2, 5, 5}, {-1, 5, 5}, {0, 201, 5}, {0, -1, 5}, {0, 5, 1000}, {0, 5, -1}};
        for (long[] one : amiss) {
            Due.row(x, 2, 1, 1, 8, 9, one[0], one[1], one[2], 1, 8, 9);
            due.is("one amiss in the middle", x.sponsors(2, 0, 3), 1);
        }
        due.is("count(1)", x.count(1), 10);
        x.row(3, 1, 60);
        due.is("till they are full", x.sponsors(3, 0, 16), 6);
        due.is("when they are full", x.sponsors(3, 0, 16), 0);
        due.is("count(1)", x.count(1), 16);
        PennyALap y = new PennyALap();
        y.child(3);
        Due.row(y, 0, 1, 0, 11, 12, 0, 21, 22);
        due.is("the last three", y.sponsors(0, 3, 2), 1);
        due.is("the last three's per", y.of(0, 4), 21);
        due.is("all threes", y.sponsors(0, 0, 2), 2);
        due.is("the last of all threes", y.of(2, 5), 22);
        y.row(0, 1, 3);
        due.is("a row of one three", y.sponsors(0, 0, 1), 1);
        due.is("beyond its one place", y.sponsors(0, 1, 1), 0);
    }

    private static void mend() {
        for (int what = 0; what <= 12; what++) {
            PennyALap x = new PennyALap();
            x.child(9);
            x.child(4);
            x.sponsor(0, 3);
            x.sponsor(1, 7);
            int number = what < 9 ? 1 : 0;
            String call = "mend(" + number + ", " + what + ", ";
            due.is(call + "below)", x.mend(number, what, LEAST[what] - 1), -1);
            due.is(call + "beyond)", x.mend(number, what, MOST[what] + 1), -1);
            due.is("changes of " + what, x.count(3), 0);
            due.is(call + "least)", x.mend(number, what, LEAST[what]), AT_FIRST[what]);
            due.is(call + "most)", x.mend(number, what, MOST[what]), LEAST[what]);
            due.is("of it", x.of(number, what), MOST[what]);
            due.is(call + "the same)", x.mend(number, what, MOST[what]), MOST[what]);
            due.is("of another number", x.of(0, what), what == 0 ? 9 : what == 4 ? 3 : what < 9 ? AT_FIRST[what] : MOST[what]);
            due.is("mend(2, " + what + ")", x.mend(2, what, MOST[what]), -1);
            due.is("mend(-1, " + what + ")", x.mend(-1, what, MOST[what]), -1);
        }
        PennyALap x = new PennyALap();
        x.child(9);
        x.sponsor(0, 3);
        for (int what : new int[] {-1, 13, 14, 15, 16, Integer.MAX_VALUE, Integer.MIN_VALUE}) {
            due.is("mend(0, " + what + ", 1)", x.mend(0, what, 1), -1);
        }
        due.is("mend(1, 9, 1)", x.mend(1, 9, 1), -1);
    }

    private static void of() {
        PennyALap x = new PennyALap();
        due.is("of(0, 0) of nobody", x.of(0, 0), -1);
        x.child(4);
        x.child(6);
        x.sponsor(1, 7);
        for (int what = 0; what <= 12; what++) {
            due.is("of(0, " + what + ")", x.of(0, what), AT_FIRST[what]);
            due.is("of(-1, " + what + ")", x.of(-1, what), -1);
            due.is("of(2, " + what + ")", x.of(2, what), -1);
        }
        due.is("of(1, 9)", x.of(1, 9), -1);
        due.is("of(1, 4)", x.of(1, 4), -1);
        x.run(1);
        x.run(1);
        x.ask(0);
        due.is("of(0, 13)", x.of(0, 13), 1);
        due.is("of(0, 14)", x.of(0, 14), 14);
        due.is("of(1, 15)", x.of(1, 15), 2);
        due.is("of(1, 16)", x.of(1, 16), 12);
        due.is("of(0, 15)", x.of(0, 15), 0);
        for (int what = 13; what <= 16; what++) {
            due.is("of(-1, " + what + ")", x.of(-1, what), -1);
            due.is("of(2, " + what + ")", x.of(2, what), -1);
        }
        due.is("of(1, 13)", x.of(1, 13), -1);
        due.is("of(1, 14)", x.of(1, 14), -1);
        due.is("of(0, -1)", x.of(0, -1), -1);
        due.is("of(0, 17)", x.of(0, 17), -1);
    }
}
