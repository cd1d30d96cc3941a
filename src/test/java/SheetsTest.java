/** Promises 23 to 28: judge, lapsFor, minutesFor, whose, oak, drawn. */
public final class SheetsTest {
    private static final Due due = new Due();

    public static void main(String[] args) {
        judge();
        lapsFor();
        minutesFor();
        whose();
        oak();
        drawn();
        refusals();
        due.end();
    }

    /** Child 0: a lap each 2 minutes, 10 pence each; child 1: each 5 minutes, 30 pence for 2 laps or more. */
    private static PennyALap twoChildren() {
        PennyALap x = new PennyALap();
        x.child(2);
        x.child(5);
        x.sponsor(0, 10);
        x.sponsor(1, 0);
        x.mend(1, 5, 30);
        x.mend(1, 6, 2);
        return x;
    }

    private static void judge() {
        PennyALap x = twoChildren();
        x.row(0, 1, 0);
        due.is("an empty sheet", x.judge(0, 10), -2);
        Due.row(x, 0, 1, 0, 50, 1, 30);
        due.is("all is so", x.judge(0, 10), -2);
        due.is("all is so at 11", x.judge(0, 11), -2);
        due.is("the first is not at 12", x.judge(0, 12), 0);
        due.is("neither is at 9", x.judge(0, 9), 0);
        x.put(0, 1, 40);
        due.is("the second is not at 9", x.judge(0, 9), 1);
        Due.row(x, 0, 1, 1, 30, 0, 50, 1, 30, 2, 0);
        due.is("a child that is none", x.judge(0, 10), 3);
        x.put(0, 6, -1);
        due.is("a child below 0", x.judge(0, 10), 3);
        Due.row(x, 0, 1, 1, 30, 0, 50, 1);
        due.is("one that lacks", x.judge(0, 10), 2);
        Due.row(x, 0, 1, 0, -50);
        due.is("below 0", x.judge(0, 10), 0);
        x.mend(0, 12, 20);
        Due.row(x, 0, 1, 0, 50, 1, 30);
        due.is("the prize does not matter", x.judge(0, 10), -2);
    }

    private static void lapsFor() {
        PennyALap x = twoChildren();
        due.is("lapsFor(0, 50, 0)", x.lapsFor(0, 50, 0), 1);
        due.is("lapsFor(0, 50, 1)", x.lapsFor(0, 50, 1), 5);
        due.is("lapsFor(0, 55, 0)", x.lapsFor(0, 55, 0), 0);
        due.is("lapsFor(0, 55, 1)", x.lapsFor(0, 55, 1), -2);
        due.is("lapsFor(1, 0, 0)", x.lapsFor(1, 0, 0), 2);
        due.is("lapsFor(1, 0, 1)", x.lapsFor(1, 0, 1), 0);
        due.is("lapsFor(1, 30, 0)", x.lapsFor(1, 30, 0), 98);
        due.is("lapsFor(1, 30, 1)", x.lapsFor(1, 30, 1), 2);
        x.mend(1, 2, 1);
        due.is("stops does not matter", x.lapsFor(1, 30, 0), 98);
        due.is("lapsFor(0, 990, 1)", x.lapsFor(0, 990, 1), 99);
        due.is("lapsFor(0, 99999, 0)", x.lapsFor(0, 99999, 0), 0);
        for (int[] bad : new int[][] {{-1, 0, 0}, {2, 0, 0}, {0, -1, 0}, {0, 100000, 0}, {0, 0, -1}, {0, 0, 2}}) {
            due.is("bad lapsFor", x.lapsFor(bad[0], bad[1], bad[2]), -1);
        }
    }

    private static void minutesFor() {
        PennyALap x = twoChildren();
        x.row(0, 1, 0);
        due.is("an empty sheet", x.minutesFor(0), 0);
        Due.row(x, 0, 1, 0, 50, 1, 30);
        due.is("both at 10", x.minutesFor(0), 10);
        x.put(0, 1, 60);
        due.is("both at 12", x.minutesFor(0), 12);
        x.put(0, 1, 40);
        due.is("never both", x.minutesFor(0), -2);
        x.put(0, 3, 0);
        due.is("both at 8", x.minutesFor(0), 8);
        x.put(0, 1, 990);
        x.put(0, 3, 30);
        due.is("both at 198", x.minutesFor(0), 198);
        x.mend(0, 2, 98);
        due.is("stops", x.minutesFor(0), -2);
        Due.row(x, 0, 1, 0, 0, 1);
        due.is("one that lacks", x.minutesFor(0), -2);
        Due.row(x, 0, 1, 2, 0);
        due.is("a child that is none", x.minutesFor(0), -2);
        Due.row(x, 0, 1, 0, 0);
        due.is("at once", x.minutesFor(0), 0);
        Due.law(x, "k=10?9;99");
        Due.row(x, 0, 1, 0, 100);
        due.is("by 990", x.minutesFor(0), 990);
        x.put(0, 1, 110);
        due.is("just by 999", x.minutesFor(0), 999);
        Due.law(x, "k=10?10;99");
        due.is("beyond 999", x.minutesFor(0), -2);
    }

    private static void whose() {
        PennyALap x = twoChildren();
        due.is("whose(0, 10, 50)", x.whose(0, 10, 50), 0);
        due.is("whose(0, 10, 55)", x.whose(0, 10, 55), 1);
        due.is("whose(0, 10, 1050)", x.whose(0, 10, 1050), 200);
        due.is("whose(0, 10, 1055)", x.whose(0, 10, 1055), -2);
        due.is("whose(0, 10, 56)", x.whose(0, 10, 56), -2);
        due.is("whose(0, 10, 49)", x.whose(0, 10, 49), -2);
        due.is("whose(0, 1, 0)", x.whose(0, 1, 0), 0);
        due.is("whose(0, 1, 1)", x.whose(0, 1, 1), -2);
        due.is("whose(1, 10, 32)", x.whose(1, 10, 32), 1);
        // 60 laps: 600 of the one, the other's purse holds no more than 9999
        due.is("whose(0, 120, 600 + 60 * 166)", x.whose(0, 120, 600 + 60 * 166), 166);
        due.is("whose(0, 120, 600 + 9999)", x.whose(0, 120, 600 + 9999), 167);
        due.is("whose(0, 120, 600 + 60 * 167)", x.whose(0, 120, 600 + 60 * 167), -2);
        due.is("no sponsor came", x.count(1), 2);
        for (int[] bad : new int[][] {{-1, 0, 0}, {2, 0, 0}, {0, -1, 0}, {0, 1000, 0}, {0, 0, -1}, {0, 0, 100000}}) {
            due.is("bad whose", x.whose(bad[0], bad[1], bad[2]), -1);
        }
        while (x.count(1) < 16) {
            x.sponsor(1, 0);
        }
        due.is("also when sponsors are full", x.whose(0, 10, 55), 1);
    }

    private static void oak() {
        PennyALap x = twoChildren();
        x.child(1);
        Due.row(x, 0, 0, 5, 3, -1, 127);
        due.is("bits at 10", x.oak(0, 10, -1), 2);
        due.is("it can", x.oak(0, 10, 0), 0);
        due.is("it can with time left", x.oak(0, 30, 0), 0);
        due.is("15 minutes in 10", x.oak(0, 10, 1), -5);
        due.is("says nothing", x.oak(0, 10, 2), 0);
        due.is("beyond the children", x.oak(0, 10, 3), -1);
        due.is("bits at 9", x.oak(0, 9, -1), 3);
        due.is("10 minutes in 9", x.oak(0, 9, 0), -1);
        x.mend(1, 2, 2);
        due.is("stops: it cannot", x.oak(0, 30, -1), 2);
        due.is("stops: 15 minutes of 30", x.oak(0, 30, 1), 15);
        Due.row(x, 0, 0, 127);
        due.is("what lacks says nothing", x.oak(0, 10, -1), 1);
        due.is("what lacks, minutes", x.oak(0, 10, 1), 0);
        Due.law(x, "99");
        due.is("9999 does not matter", x.oak(0, 10, 0), 10 - 127 * 99);
        x.row(0, 0, 0);
        due.is("an empty row", x.oak(0, 0, -1), 0);
        x.row(0, 0, 3);
        due.is("no laps in no time", x.oak(0, 0, -1), 0);
        PennyALap y = new PennyALap();
        for (int c = 0; c < 6; c++) {
            y.child(1);
        }
        Due.row(y, 0, 0, 1, 1, 1, 1, 1, 1, 1);
        due.is("all six", y.oak(0, 0, -1), 63);
    }

    /** Told by the document's words alone: the laps and pence of n fields. */
    private static int[] drawnFields(int[] pace, int[] cuts, int[] per, int prize, int seed, int n, int t) {
        int z = seed;
        int laps = 0;
        int paid = 0;
        for (int field = 0; field < n; field++) {
            int most = 0;
            for (int c = 0; c < pace.length; c++) {
                int minutes = 0;
                int done = 0;
                boolean over = false;
                while (!over && done < 99) {
                    z = z * 1103515245 + 12345;
                    int takes = (z >>> 8) % 12 < cuts[c] ? Math.max(1, pace[c] / 2) : pace[c];
                    over = minutes + takes > t;
                    minutes += over ? 0 : takes;
                    done += over ? 0 : 1;
                }
                laps += done;
                paid += done * per[c];
                most = Math.max(most, done);
            }
            paid -= most > 0 ? prize : 0;
        }
        return new int[] {laps, paid};
    }

    private static void drawn() {
        int[] pace = {1, 6, 9};
        int[] cuts = {12, 4, 0};
        int[] per = {1, 2, 4};
        PennyALap x = new PennyALap();
        for (int c = 0; c < 3; c++) {
            x.child(pace[c]);
            x.mend(c, 3, cuts[c]);
            x.sponsor(c, per[c]);
        }
        x.mend(0, 12, 5);
        for (int seed : new int[] {0, 1, -1, 7, 123456789, Integer.MIN_VALUE, Integer.MAX_VALUE}) {
            for (int nt : new int[] {1000, 1001, 1005, 2050, 7100, 30007, 30033, 30999}) {
                int[] want = drawnFields(pace, cuts, per, 5, seed, nt / 1000, nt % 1000);
                due.is("drawn(" + seed + ", " + nt + ", 0)", x.drawn(seed, nt, 0), want[0]);
                due.is("drawn(" + seed + ", " + nt + ", 1)", x.drawn(seed, nt, 1), want[1]);
            }
        }
        for (int c = 0; c < 3; c++) {
            x.mend(c, 3, 0);
        }
        due.is("no cuts: laps as thought", x.drawn(3, 4040, 0), 4 * x.laps(-1, 40, 0));
        due.is("no cuts: pence as thought", x.drawn(3, 4040, 1), 4 * x.laps(-1, 40, 2));
        x.mend(1, 3, 12);
        due.is("all cut: half", x.drawn(3, 1040, 0), 40 + 13 + 4);
        x.mend(1, 2, 5);
        due.is("stops", x.drawn(3, 1040, 0), 40 + 5 + 4);
        Due.law(x, "k+1");
        x.mend(1, 2, 99);
        // child 0 and 2: 1, 3, 6, 10; child 1 by halves: 1, 2, 3, 5, 7, 10
        due.is("the law goes by what was run", x.drawn(3, 1010, 0), 4 + 6 + 4);
        for (int[] bad : new int[][] {{1, 999, 0}, {1, 31000, 0}, {1, -1000, 0}, {1, 0, 0}, {1, 1000, -1}, {1, 1000, 2},
            {1, Integer.MAX_VALUE, 0}, {1, Integer.MIN_VALUE, 0}}) {
            due.is("bad drawn", x.drawn(bad[0], bad[1], bad[2]), -1);
        }
    }

    private static void refusals() {
        PennyALap x = twoChildren();
        x.body(0);
        x.keep(1, 0);
        x.row(2, 1, 2);
        x.row(3, 0, 2);
        for (int shelf : new int[] {-1, 6}) {
            due.is("judge, no such shelf", x.judge(shelf, 0), -1);
            due.is("minutesFor, no such shelf", x.minutesFor(shelf), -1);
            due.is("oak, no such shelf", x.oak(shelf, 0, -1), -1);
        }
        for (int t : new int[] {-1, 1000}) {
            due.is("judge, bad minutes", x.judge(0, t), -1);
            due.is("oak, bad minutes", x.oak(0, t, -1), -1);
        }
        due.is("oak, child -2", x.oak(0, 0, -2), -1);
        due.is("oak, child 2", x.oak(0, 0, 2), -1);
        due.is("judge, nothing there", x.judge(0, 0), -11);
        due.is("minutesFor, nothing there", x.minutesFor(0), -11);
        due.is("oak, nothing there", x.oak(0, 0, 0), -11);
        due.is("judge, a body", x.judge(1, 0), -12);
        due.is("minutesFor, a body", x.minutesFor(1), -12);
        due.is("oak, a body", x.oak(1, 0, 0), -12);
        due.is("judge, bytes", x.judge(3, 0), -12);
        due.is("minutesFor, bytes", x.minutesFor(3), -12);
        due.is("oak, shorts", x.oak(2, 0, 0), -12);
    }
}
