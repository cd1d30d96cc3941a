/** Promises 10 to 19: laps, minutes, most, owes, more, done, lapOrSum, top, howLong, field. */
public final class ThoughtTest {
    private static final Due due = new Due();

    public static void main(String[] args) {
        laps();
        minutes();
        most();
        owes();
        moreAndDone();
        lapOrSumAndTop();
        howLong();
        field();
        fieldOfLikeOnes();
        due.end();
    }

    /** Child 0: laps over by 3, 6, 10, 14, 19 ..; child 1: every 7 minutes, 4 at most. */
    private static PennyALap twoChildren() {
        PennyALap x = new PennyALap();
        x.child(3);
        x.child(7);
        x.mend(0, 1, 2);
        x.mend(1, 2, 4);
        x.sponsor(0, 10);
        x.sponsor(1, 20);
        x.sponsor(1, 0);
        x.mend(2, 5, 100);
        x.mend(2, 6, 3);
        x.mend(1, 8, 50);
        return x;
    }

    private static void laps() {
        PennyALap x = twoChildren();
        due.is("laps(0, 0, 0)", x.laps(0, 0, 0), 0);
        due.is("laps(0, 2, 0)", x.laps(0, 2, 0), 0);
        due.is("laps(0, 3, 0)", x.laps(0, 3, 0), 1);
        due.is("laps(0, 9, 0)", x.laps(0, 9, 0), 2);
        due.is("laps(0, 10, 0)", x.laps(0, 10, 0), 3);
        due.is("laps(0, 18, 0)", x.laps(0, 18, 0), 4);
        due.is("laps(0, 19, 0)", x.laps(0, 19, 0), 5);
        due.is("laps(1, 20, 0)", x.laps(1, 20, 0), 2);
        due.is("laps(1, 28, 0)", x.laps(1, 28, 0), 4);
        due.is("laps(1, 999, 0): stops", x.laps(1, 999, 0), 4);
        due.is("laps(1, 20, 1)", x.laps(1, 20, 1), 40);
        due.is("laps(1, 20, 2)", x.laps(1, 20, 2), 40);
        due.is("laps(1, 21, 1)", x.laps(1, 21, 1), 160);
        due.is("laps(1, 21, 2)", x.laps(1, 21, 2), 150);
        due.is("laps(0, 21, 2)", x.laps(0, 21, 2), 50);
        due.is("laps(-1, 21, 0)", x.laps(-1, 21, 0), 8);
        due.is("laps(-1, 21, 1)", x.laps(-1, 21, 1), 210);
        due.is("laps(-1, 21, 2)", x.laps(-1, 21, 2), 200);
        x.mend(0, 12, 30);
        due.is("owed, with a prize", x.laps(-1, 21, 1), 210);
        due.is("paid less the prize", x.laps(-1, 21, 2), 170);
        due.is("paid to a child, with a prize", x.laps(0, 21, 2), 50);
        due.is("nobody gets the prize", x.laps(-1, 2, 2), 0);
        due.is("laps(-1, 3, 2)", x.laps(-1, 3, 2), -20);
        Due.law(x, "m<10?2;50");
        due.is("by a law with minutes", x.laps(0, 59, 0), 5);
        due.is("by a law with minutes, one more", x.laps(0, 60, 0), 6);
        for (int[] bad : new int[][] {{-2, 0, 0}, {2, 0, 0}, {0, -1, 0}, {0, 1000, 0}, {0, 0, -1}, {0, 0, 3}, {-1, 1000, 0},
            {-1, 0, 3}}) {
            due.is("bad laps", x.laps(bad[0], bad[1], bad[2]), -1);
        }
    }

    private static void minutes() {
        PennyALap x = twoChildren();
        due.is("minutes(0, 0)", x.minutes(0, 0), 0);
        due.is("minutes(0, 5)", x.minutes(0, 5), 19);
        due.is("minutes(1, 4)", x.minutes(1, 4), 28);
        due.is("minutes(1, 5): stops", x.minutes(1, 5), -2);
        due.is("minutes(1, 99): stops", x.minutes(1, 99), -2);
        due.is("minutes(1, 100)", x.minutes(1, 100), -1);
        due.is("minutes(1, -1)", x.minutes(1, -1), -1);
        due.is("minutes(2, 0)", x.minutes(2, 0), -1);
        due.is("minutes(-1, 0)", x.minutes(-1, 0), -1);
        Due.law(x, "99");
        due.is("99 of 99", x.minutes(0, 99), 9801);
    }

    private static void most() {
        PennyALap x = twoChildren();
        due.is("nobody is surprised", x.most(20, 0), 0);
        due.is("sponsor 1 is", x.most(21, 0), 2);
        x.mend(2, 8, 99);
        due.is("1 and 2 are", x.most(21, 0), 6);
        x.mend(2, 8, 100);
        due.is("just the purse is none", x.most(21, 0), 2);
        x.mend(2, 7, 80);
        x.mend(2, 8, 80);
        due.is("the top keeps it within", x.most(21, 0), 2);
        due.is("most laps, none", x.most(2, 1), -2);
        due.is("most laps", x.most(3, 1), 0);
        due.is("most pence, none: the least", x.most(0, 2), 0);
        due.is("most pence at 7", x.most(7, 2), 0);
        due.is("most pence at 21", x.most(21, 2), 1);
        x.mend(0, 0, 14);
        x.mend(0, 1, 0);
        due.is("most laps of 1", x.most(27, 1), 1);
        x.mend(0, 0, 7);
        due.is("like ones: the least", x.most(21, 1), 0);
        due.is("most(-1, 0)", x.most(-1, 0), -1);
        due.is("most(1000, 0)", x.most(1000, 0), -1);
        due.is("most(0, -1)", x.most(0, -1), -1);
        due.is("most(0, 3)", x.most(0, 3), -1);
        due.is("most pence, no children", new PennyALap().most(9, 2), -2);
        PennyALap y = new PennyALap();
        y.child(1);
        for (int s = 0; s < 16; s++) {
            y.sponsor(0, 1);
            y.mend(s, 8, 0);
        }
        due.is("all sixteen", y.most(1, 0), 65535);
    }

    private static void owes() {
        PennyALap x = new PennyALap();
        x.child(5);
        x.sponsor(0, 200);
        due.is("200 by 99", x.owes(0, 99, 0), 19800);
        due.is("the purse", x.owes(0, 99, 1), 9999);
        x.mend(0, 5, 999);
        due.is("by 9, below need", x.owes(0, 9, 0), 1800);
        due.is("by 10, need", x.owes(0, 10, 0), 2999);
        x.mend(0, 7, 2500);
        due.is("top", x.owes(0, 10, 0), 2500);
        due.is("below top", x.owes(0, 9, 0), 1800);
        x.mend(0, 8, 2499);
        due.is("purse below top", x.owes(0, 10, 1), 2499);
        due.is("owes more than purse", x.owes(0, 10, 0), 2500);
        x.mend(0, 6, 0);
        due.is("need 0", x.owes(0, 0, 0), 999);
        x.mend(0, 7, 1);
        due.is("a top of 1", x.owes(0, 50, 0), 1);
        for (int[] bad : new int[][] {{-1, 0, 0}, {1, 0, 0}, {0, -1, 0}, {0, 100, 0}, {0, 0, -1}, {0, 0, 2}}) {
            due.is("bad owes", x.owes(bad[0], bad[1], bad[2]), -1);
        }
    }

    private static void moreAndDone() {
        PennyALap x = twoChildren();
        due.is("more(0, 98)", x.more(0, 98), 10);
        due.is("more(0, 99)", x.more(0, 99), -1);
        due.is("more(0, -1)", x.more(0, -1), -1);
        due.is("more(2, 0)", x.more(2, 0), -1);
        due.is("more(-1, 0)", x.more(-1, 0), -1);
        due.is("more(1, 0)", x.more(1, 0), 20);
        due.is("more(1, 1)", x.more(1, 1), 20);
        due.is("more(1, 2): flat, and what the purse has", x.more(1, 2), 110);
        due.is("more(1, 3)", x.more(1, 3), 0);
        due.is("more(1, 50): stops does not matter", x.more(1, 50), 0);
        due.is("done(0)", x.done(0), 99);
        due.is("done(1)", x.done(1), 3);
        x.mend(2, 6, 90);
        due.is("done(1) with a late flat", x.done(1), 90);
        x.mend(2, 5, 0);
        due.is("done(1) without it", x.done(1), 3);
        due.is("done(2)", x.done(2), -1);
        due.is("done(-1)", x.done(-1), -1);
        PennyALap y = new PennyALap();
        y.child(5);
        due.is("done without sponsors", y.done(0), 0);
    }

    private static void lapOrSumAndTop() {
        PennyALap x = twoChildren();
        due.is("lapOrSum(0, 0)", x.lapOrSum(0, 0), 0);
        due.is("lapOrSum(0, 1)", x.lapOrSum(0, 1), 1);
        due.is("lapOrSum(0, 10)", x.lapOrSum(0, 10), 1);
        due.is("lapOrSum(0, 11)", x.lapOrSum(0, 11), 2);
        due.is("lapOrSum(0, 990)", x.lapOrSum(0, 990), 99);
        due.is("lapOrSum(0, 991)", x.lapOrSum(0, 991), -2);
        due.is("lapOrSum(1, 60): owed, not paid", x.lapOrSum(1, 60), 3);
        due.is("lapOrSum(2, 100)", x.lapOrSum(2, 100), 3);
        x.mend(2, 7, 99);
        due.is("lapOrSum(2, 100) with a top", x.lapOrSum(2, 100), -2);
        due.is("lapOrSum(0, 9999)", x.lapOrSum(0, 9999), -2);
        due.is("lapOrSum(0, 10000)", x.lapOrSum(0, 10000), -1);
        due.is("lapOrSum(0, -1)", x.lapOrSum(0, -1), -1);
        due.is("lapOrSum(3, 0)", x.lapOrSum(3, 0), -1);
        due.is("lapOrSum(-1, 0)", x.lapOrSum(-1, 0), -1);
        due.is("top(0)", x.top(0), 0);
        due.is("top(1)", x.top(1), 50);
        x.mend(0, 8, 990);
        due.is("top(0), just the purse", x.top(0), 0);
        x.mend(0, 8, 989);
        due.is("top(0), a penny less", x.top(0), 989);
        x.mend(0, 7, 5);
        due.is("top(0), as if it had none", x.top(0), 989);
        x.mend(0, 8, 0);
        due.is("top(0), an empty purse", x.top(0), 1);
        due.is("top(2): the flat", x.top(2), 0);
        x.mend(2, 8, 60);
        due.is("top(2): beyond the purse", x.top(2), 60);
        due.is("top(3)", x.top(3), -1);
        due.is("top(-1)", x.top(-1), -1);
    }

    private static void howLong() {
        PennyALap x = twoChildren();
        due.is("howLong(0)", x.howLong(0), 0);
        due.is("howLong(1)", x.howLong(1), 3);
        due.is("howLong(200)", x.howLong(200), 21);
        due.is("howLong(150)", x.howLong(150), 21);
        x.mend(0, 12, 30);
        due.is("less the prize, howLong(0)", x.howLong(0), 0);
        due.is("less the prize, howLong(1): 20 and 20 less 30", x.howLong(1), 7);
        due.is("less the prize, howLong(170)", x.howLong(170), 21);
        due.is("howLong(-1)", x.howLong(-1), -1);
        due.is("howLong(100000)", x.howLong(100000), -1);
        due.is("howLong(99999)", x.howLong(99999), -2);
        PennyALap y = new PennyALap();
        y.child(1);
        y.sponsor(0, 1);
        Due.law(y, "k=0?99;99");
        due.is("ten laps by 990", y.howLong(10), 990);
        due.is("no eleventh by 999", y.howLong(11), -2);
        Due.law(y, "k=10?9;99");
        due.is("the eleventh just by 999", y.howLong(11), 999);
        Due.law(y, "k=10?10;99");
        due.is("a minute too late", y.howLong(11), -2);
        // a prize that outweighs what was there at minute 0 makes the first minutes dearer
        y.mend(0, 5, 40);
        y.mend(0, 6, 0);
        y.mend(0, 12, 999);
        due.is("only at minute 0", y.howLong(40), 0);
        due.is("never again", y.howLong(41), -2);
    }

    private static void field() {
        PennyALap x = new PennyALap();
        due.is("field of nobody", x.field(300, -1), 0);
        due.is("minutes of nobody", x.field(300, -2), 0);
        x.child(10);
        x.child(5);
        x.sponsor(0, 30);
        x.sponsor(1, 10);
        due.is("field(0, -1)", x.field(0, -1), 0);
        due.is("field(9, -1)", x.field(9, -1), 10);
        due.is("field(9, -2)", x.field(9, -2), 5);
        due.is("field(10, -1)", x.field(10, -1), 30);
        due.is("field(35, -1)", x.field(35, -1), 100);
        due.is("field(35, -2)", x.field(35, -2), 35);
        due.is("field(35, 0)", x.field(35, 0), 3);
        due.is("field(35, 1)", x.field(35, 1), 1);
        x.mend(0, 2, 1);
        due.is("stops, field(35, -1)", x.field(35, -1), 80);
        due.is("stops, field(35, 1)", x.field(35, 1), 5);
        x.mend(0, 12, 999);
        due.is("the prize is left aside", x.field(35, -1), 80);
        x.mend(1, 7, 20);
        due.is("a top, field(35, -1)", x.field(35, -1), 50);
        due.is("a top, field(35, -2): no minute for nothing", x.field(35, -2), 20);
        due.is("a top, field(35, 1)", x.field(35, 1), 2);
        x.mend(0, 2, 99);
        x.mend(1, 7, 0);
        x.mend(0, 8, 600);
        // 20 laps of the one fill its purse, the other has 100 minutes for 20 laps
        due.is("field(300, -1)", x.field(300, -1), 800);
        due.is("field(300, -2)", x.field(300, -2), 300);
        due.is("field(300, 0)", x.field(300, 0), 20);
        due.is("field(300, 1)", x.field(300, 1), 20);
        for (int[] bad : new int[][] {{-1, -1}, {301, -1}, {0, -3}, {0, 2}, {0, Integer.MIN_VALUE}}) {
            due.is("bad field", x.field(bad[0], bad[1]), -1);
        }
    }

    private static void fieldOfLikeOnes() {
        PennyALap x = new PennyALap();
        for (int c = 0; c < 3; c++) {
            x.child(5);
            x.sponsor(c, 10);
        }
        due.is("like ones: the first runs least", x.field(12, 0), 0);
        due.is("like ones: the second too", x.field(12, 1), 0);
        due.is("like ones: the last runs", x.field(12, 2), 2);
        due.is("like ones: minutes", x.field(12, -2), 10);
        x.mend(2, 2, 1);
        due.is("the last stops: the first", x.field(12, 0), 0);
        due.is("the last stops: the second", x.field(12, 1), 1);
        due.is("the last stops: the last", x.field(12, 2), 1);
        x.mend(0, 0, 4);
        due.is("like pence in fewest minutes", x.field(12, -2), 12);
        due.is("like pence in fewest minutes: the first", x.field(12, 0), 3);
        due.is("at 10: two laps of the first", x.field(10, 0), 2);
        due.is("at 10: eight minutes", x.field(10, -2), 8);
        // need 0: paid for no lap at all
        x.mend(1, 6, 0);
        x.mend(1, 5, 77);
        due.is("paid for no lap", x.field(0, -1), 77);
    }
}
