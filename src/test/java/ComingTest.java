/** Promises 20 to 22: comes, by, remind. */
public final class ComingTest {
    private static final Due due = new Due();

    public static void main(String[] args) {
        comes();
        by();
        remind();
        refusals();
        due.end();
    }

    /** One child with a lap a minute; by 1 minute sponsor 0 pays 100, sponsor 1 pays 7. */
    private static PennyALap twoSponsors() {
        PennyALap x = new PennyALap();
        x.child(1);
        x.sponsor(0, 100);
        x.sponsor(0, 7);
        x.row(0, 0, 0);
        return x;
    }

    private static void comes() {
        PennyALap x = twoSponsors();
        due.is("no weeks", x.comes(0, 100), 0);
        due.is("1 week", x.comes(0, 101), 66 + 4);
        due.is("2 weeks", x.comes(0, 102), 66 + 22 + 4 + 2);
        due.is("3 weeks: a penny at least", x.comes(0, 103), 66 + 22 + 8 + 7);
        due.is("4 weeks", x.comes(0, 104), 66 + 22 + 8 + 2 + 7);
        due.is("5 weeks", x.comes(0, 105), 66 + 22 + 8 + 2 + 1 + 7);
        due.is("6 weeks", x.comes(0, 106), 107);
        due.is("60 weeks", x.comes(0, 160), 107);
        due.is("by no minutes", x.comes(0, 60), 0);
        x.mend(0, 10, 3);
        Due.row(x, 1, 0, 1, 1, -1, 60, 127, -128);
        due.is("prompt 3, 1 week", x.comes(1, 101), 25 + 1);
        due.is("prompt 3, 2 weeks, reminded", x.comes(1, 102), 25 + 36 + 1 + 2);
        due.is("prompt 3, 3 weeks", x.comes(1, 103), 25 + 36 + 9 + 1 + 2 + 1);
        x.mend(0, 11, 4);
        due.is("reminded 4 times", x.comes(1, 102), 25 + 72 + 1 + 4);
        x.mend(0, 10, 8);
        Due.row(x, 1, 0, 0);
        due.is("all that is left at most", x.comes(1, 101), 107);
        x.mend(0, 11, 1);
        due.is("reminded once is none", x.comes(1, 101), 70);
        x.mend(0, 10, 0);
        due.is("prompt 0: a penny each", x.comes(1, 101), 2);
        due.is("prompt 0, 60 weeks", x.comes(1, 160), 67);
        Due.row(x, 1, 0, 59);
        x.mend(0, 11, 3);
        due.is("the last week's reminder", x.comes(1, 160), 69);
        x.mend(0, 8, 40);
        x.mend(0, 10, 12);
        due.is("paid, not owed", x.comes(1, 101), 47);
        x.mend(0, 12, 30);
        due.is("without a look at the prize", x.comes(1, 101), 47);
    }

    private static void by() {
        PennyALap x = twoSponsors();
        due.is("0 of twelve", x.by(0, 100), 0);
        due.is("1 of twelve", x.by(0, 101), 1);
        due.is("7 of twelve: 62.4", x.by(0, 107), 1);
        due.is("8 of twelve: 71.3", x.by(0, 108), 2);
        due.is("10 of twelve: 89.2", x.by(0, 110), 2);
        due.is("11 of twelve: 98.1", x.by(0, 111), 3);
        due.is("all", x.by(0, 112), 6);
        due.is("all of nothing", x.by(0, 12), 0);
        x.mend(0, 10, 0);
        due.is("60 pence of 107 by 60 weeks: 7 of twelve", x.by(0, 107), 56);
        due.is("8 of twelve never", x.by(0, 108), -2);
        PennyALap y = new PennyALap();
        y.child(1);
        y.sponsor(0, 60);
        y.mend(0, 10, 0);
        y.row(0, 0, 1);
        due.is("reminded in week 0", y.by(0, 112), 59);
        y.put(0, 0, 70);
        due.is("just by 60", y.by(0, 112), 60);
        y.mend(0, 4, 61);
        due.is("a penny too much", y.by(0, 112), -2);
        due.is("11 of twelve: 56", y.by(0, 111), 56);
    }

    private static void remind() {
        PennyALap x = twoSponsors();
        due.is("w 0", x.remind(0, 100, 0), -2);
        due.is("w 0, how much", x.remind(0, 100, 1), -2);
        due.is("1 week", x.remind(0, 101, 0), 0);
        due.is("1 week, how much", x.remind(0, 101, 1), 107);
        x.mend(0, 10, 1);
        // 100 and 7 by twelfths: 8 + 1, 7 + 1, 7 + 1
        due.is("3 weeks, none yet", x.comes(0, 103), 25);
        due.is("3 weeks: the least of like ones", x.remind(0, 103, 0), 0);
        due.is("3 weeks, how much", x.remind(0, 103, 1), 16 + 7 + 6 + 2 + 1 + 1);
        Due.row(x, 1, 0, 0);
        due.is("week 0 has one: weeks 1 and 2 are alike", x.remind(1, 103, 0), 1);
        due.is("week 0 has one, how much", x.remind(1, 103, 1), 16 + 14 + 5 + 2 + 2 + 1);
        // 99 by twelfths: 16 with a reminder, then 83: 12 and 5, or 6 and 12
        x.mend(0, 4, 99);
        x.mend(1, 4, 0);
        due.is("week 2 brings more than week 1", x.remind(1, 103, 0), 2);
        due.is("week 2 brings more, how much", x.remind(1, 103, 1), 16 + 6 + 12);
        x.mend(0, 4, 100);
        x.mend(1, 4, 7);
        Due.row(x, 1, 0, 0, 1, 2);
        int all = x.comes(1, 103);
        due.is("all have one: the least", x.remind(1, 103, 0), 0);
        due.is("all have one: nothing more", x.remind(1, 103, 1), all);
        due.is("the row is as it was", x.element(1, 1), 1);
        x.mend(0, 10, 0);
        due.is("a penny each: the least", x.remind(0, 160, 0), 0);
        due.is("a penny each, how much", x.remind(0, 160, 1), 61 + 7);
    }

    private static void refusals() {
        PennyALap x = twoSponsors();
        x.body(0);
        x.keep(1, 0);
        x.row(2, 1, 3);
        for (int shelf : new int[] {-1, 6, Integer.MIN_VALUE}) {
            due.is("comes, no such shelf", x.comes(shelf, 101), -1);
            due.is("by, no such shelf", x.by(shelf, 101), -1);
            due.is("remind, no such shelf", x.remind(shelf, 101, 0), -1);
        }
        for (int tw : new int[] {-1, 61, 99, 99961, 100000, Integer.MAX_VALUE, Integer.MIN_VALUE}) {
            due.is("comes(0, " + tw + ")", x.comes(0, tw), -1);
            due.is("comes(5, " + tw + "), nothing there", x.comes(5, tw), -1);
            due.is("remind(2, " + tw + "), another kind", x.remind(2, tw, 0), -1);
        }
        for (int tx : new int[] {-1, 13, 99913, 100000}) {
            due.is("by(0, " + tx + ")", x.by(0, tx), -1);
        }
        due.is("remind(0, 101, 2)", x.remind(0, 101, 2), -1);
        due.is("remind(0, 101, -1)", x.remind(0, 101, -1), -1);
        due.is("comes, nothing there", x.comes(5, 101), -11);
        due.is("by, nothing there", x.by(5, 101), -11);
        due.is("remind, nothing there", x.remind(5, 100, 0), -11);
        for (int shelf = 1; shelf <= 2; shelf++) {
            due.is("comes, another kind", x.comes(shelf, 101), -12);
            due.is("by, another kind", x.by(shelf, 101), -12);
            due.is("remind, another kind", x.remind(shelf, 100, 0), -12);
        }
    }
}
