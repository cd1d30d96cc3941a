/** The edges of promises 10 to 19, and of what Terms 1 and 2 say of owing and of what is in thought. */
final class EdgesOfThought extends EdgesOf {
    private static final int[] NO_LAPS = {-1, 100, MIN, MAX};

    EdgesOfThought(Edges edges) {
        super(edges);
    }

    @Override
    void all() {
        overByT();
        owing();
        prize();
        laps();
        lapsRefused();
        minutes();
        mostLaps();
        mostPence();
        surprised();
        mostRefused();
        owesRefused();
        more();
        done();
        lapOrSum();
        top();
        howLong();
        howLongLessPrize();
        field();
        fieldOfLikeOnes();
        fieldRefused();
    }

    private static PennyALap oneChild(int pace) {
        PennyALap x = new PennyALap();
        x.child(pace);
        return x;
    }

    private static PennyALap oneSponsor(int pace, int per) {
        PennyALap x = oneChild(pace);
        x.sponsor(0, per);
        return x;
    }

    private void overByT() {
        edges.term(1, "In T minutes (0 .. 999) a CHILD does all LAPS that are over by then, one after the other, STOPS at most.");
        PennyALap x = oneChild(30);
        edges.is("T 0", x.laps(0, 0, 0), 0);
        edges.is("a minute too few", x.laps(0, 29, 0), 0);
        edges.is("just over", x.laps(0, 30, 0), 1);
        edges.is("a minute too few for two", x.laps(0, 59, 0), 1);
        edges.is("T 989", x.laps(0, 989, 0), 32);
        edges.is("T 990", x.laps(0, 990, 0), 33);
        edges.is("T 999", x.laps(0, 999, 0), 33);
        x.mend(0, 2, 33);
        edges.is("stops just there", x.laps(0, 999, 0), 33);
        x.mend(0, 2, 32);
        edges.is("stops one ahead", x.laps(0, 999, 0), 32);
        x.mend(0, 2, 0);
        edges.is("stops at once", x.laps(0, 999, 0), 0);
        PennyALap y = oneChild(1);
        edges.is("99 at most: T 98", y.laps(0, 98, 0), 98);
        edges.is("99 at most: T 99", y.laps(0, 99, 0), 99);
        edges.is("99 at most: T 100", y.laps(0, 100, 0), 99);
        Due.law(y, "k=0?99;k=1?1;99");
        edges.is("one after the other: the first is long", y.laps(0, 98, 0), 0);
        edges.is("one after the other: two", y.laps(0, 100, 0), 2);
        Due.law(y, "k=0?1;k=1?99;1");
        edges.is("none is done ahead of a long one", y.laps(0, 99, 0), 1);
        edges.is("the long one is over", y.laps(0, 100, 0), 2);
    }

    private void owing() {
        edges.term(1, "A SPONSOR OWES by LAPS of its CHILD: PER times LAPS, and FLAT, if they are NEED or more; TOP at most, if there is one.");
        PennyALap x = oneSponsor(1, 200);
        edges.is("no laps", x.owes(0, 0, 0), 0);
        edges.is("99 laps", x.owes(0, 99, 0), 19800);
        x.mend(0, 5, 999);
        edges.is("need 10, 9 laps", x.owes(0, 9, 0), 1800);
        edges.is("need 10, 10 laps", x.owes(0, 10, 0), 2999);
        edges.is("need 10, 99 laps", x.owes(0, 99, 0), 20799);
        x.mend(0, 7, 2998);
        edges.is("a penny beyond the top", x.owes(0, 10, 0), 2998);
        x.mend(0, 7, 2999);
        edges.is("just the top", x.owes(0, 10, 0), 2999);
        x.mend(0, 7, 3000);
        edges.is("a penny below the top", x.owes(0, 10, 0), 2999);
        edges.term(1, "It PAYS that, PURSE at most; it is SURPRISED, if it OWES more than PURSE.");
        x.mend(0, 7, 0);
        for (int purse : new int[] {2998, 2999, 3000}) {
            x.mend(0, 8, purse);
            edges.is("pays with a purse of " + purse, x.owes(0, 10, 1), Math.min(2999, purse));
            edges.is("owes with a purse of " + purse, x.owes(0, 10, 0), 2999);
            edges.is("surprised with a purse of " + purse, x.most(10, 0), purse < 2999 ? 1 : 0);
        }
        x.mend(0, 8, 0);
        edges.is("an empty purse pays", x.owes(0, 99, 1), 0);
        edges.is("an empty purse, nothing owed: no surprise", x.most(0, 0), 0);
        edges.is("an empty purse, a lap", x.most(1, 0), 1);
    }

    private void prize() {
        edges.term(1, "PRIZE is owed by nobody: it is paid out to the CHILD with most LAPS (of like ones the least number; nobody with none).");
        PennyALap x = oneSponsor(2, 5);
        x.child(2);
        x.mend(0, 12, 999);
        edges.is("nobody has a lap", x.laps(-1, 1, 2), 0);
        edges.is("somebody has", x.laps(-1, 2, 2), 5 - 999);
        edges.is("owed of all", x.laps(-1, 2, 1), 5);
        edges.is("paid to the one with most laps", x.laps(0, 2, 2), 5);
        edges.is("paid to the other", x.laps(1, 2, 2), 0);
        edges.is("like ones", x.most(2, 1), 0);
        edges.is("none", x.most(1, 1), -2);
    }

    private void laps() {
        edges.term(2, "what is OWED, PAID to a CHILD by its SPONSORS, to all (less PRIZE, if somebody gets it: PAID of all alone)");
        PennyALap x = oneSponsor(3, 10);
        x.child(7);
        x.sponsor(1, 100);
        x.mend(1, 8, 30);
        x.mend(0, 12, 1);
        edges.is("owed, nobody gets it", x.laps(-1, 2, 1), 0);
        edges.is("paid, nobody gets it", x.laps(-1, 2, 2), 0);
        edges.is("laps of all", x.laps(-1, 7, 0), 3);
        edges.is("owed of all", x.laps(-1, 7, 1), 120);
        edges.is("paid of all less the prize", x.laps(-1, 7, 2), 49);
        edges.is("paid to one", x.laps(1, 7, 2), 30);
        edges.is("owed to one", x.laps(1, 7, 1), 100);
        x.mend(0, 12, 0);
        edges.is("paid of all without one", x.laps(-1, 7, 2), 50);
        PennyALap y = new PennyALap();
        y.mend(0, 12, 999);
        edges.is("no children: laps", y.laps(-1, 999, 0), 0);
        edges.is("no children: owed", y.laps(-1, 999, 1), 0);
        edges.is("no children: nobody gets the prize", y.laps(-1, 999, 2), 0);
        y.child(1);
        y.mend(0, 2, 0);
        edges.is("a child that runs no lap gets none", y.laps(-1, 999, 2), 0);
    }

    private void lapsRefused() {
        edges.promise(10, "LAPS (what 0), OWED (1), PAID (2) of a CHILD; of all (child -1). BAD.");
        edges.is("of all", SOME.made().laps(-1, 999, 2) != -1 ? 1 : 0, 1);
        for (int what = 0; what <= 2; what++) {
            int w = what;
            for (int child : new int[] {-2, 3, 6, MIN, MAX}) {
                edges.refused("laps(" + child + ", 5, " + what + ")", SOME, -1, y -> y.laps(child, 5, w));
            }
            for (int t : NO_T) {
                edges.refused("laps(-1, " + t + ", " + what + ")", SOME, -1, y -> y.laps(-1, t, w));
                edges.refused("laps(0, " + t + ", " + what + ")", SOME, -1, y -> y.laps(0, t, w));
            }
        }
        for (int what : new int[] {-1, 3, MIN, MAX}) {
            edges.refused("laps(-1, 5, " + what + ")", SOME, -1, y -> y.laps(-1, 5, what));
            edges.refused("laps(2, 5, " + what + ")", SOME, -1, y -> y.laps(2, 5, what));
        }
        edges.refused("laps(0, 0, 0)", FRESH, -1, y -> y.laps(0, 0, 0));
        edges.is("laps(-1, 0, 0) with nobody there", new PennyALap().laps(-1, 0, 0), 0);
    }

    private void minutes() {
        edges.term(2, "the minutes so many LAPS take (NOT: more than STOPS, or beyond 9999)");
        PennyALap x = oneChild(7);
        x.mend(0, 2, 4);
        edges.is("no laps", x.minutes(0, 0), 0);
        edges.is("just the stops", x.minutes(0, 4), 28);
        edges.refused("one beyond the stops of child 1: minutes(1, 5)", SOME, -2, y -> y.minutes(1, 5));
        edges.refused("minutes(1, 99)", SOME, -2, y -> y.minutes(1, 99));
        x.mend(0, 2, 0);
        edges.is("stops 0, no laps", x.minutes(0, 0), 0);
        edges.is("stops 0, a lap", x.minutes(0, 1), -2);
        x.mend(0, 2, 99);
        // the most minutes there are: each lap is held within 99, so that 9999 is never passed
        Due.law(x, "9999");
        edges.is("99 laps of 99", x.minutes(0, 99), 9801);
        edges.is("beyond 999 m goes on", x.minutes(0, 98), 9702);
        Due.law(x, "m>999?1;99");
        edges.is("11 laps of 99, 88 of 1", x.minutes(0, 99), 11 * 99 + 88);
        edges.promise(11, "The minutes so many LAPS (0 .. 99) take. BAD; NOT.");
        for (int laps : NO_LAPS) {
            edges.refused("minutes(0, " + laps + ")", SOME, -1, y -> y.minutes(0, laps));
            edges.refused("beyond stops and bad: minutes(1, " + laps + ")", SOME, -1, y -> y.minutes(1, laps));
        }
        for (int child : NO_CHILD) {
            edges.refused("minutes(" + child + ", 0)", SOME, -1, y -> y.minutes(child, 0));
        }
        edges.refused("minutes(0, 0)", FRESH, -1, y -> y.minutes(0, 0));
        edges.refused("minutes(0, 2)", FULL, -2, y -> y.minutes(0, 2));
        edges.is("minutes(0, 99)", oneChild(1).minutes(0, 99), 99);
    }

    private void mostLaps() {
        edges.term(2, "MOST LAPS: whose (NOT)");
        PennyALap x = oneChild(5);
        edges.is("no lap is over", x.most(4, 1), -2);
        edges.is("one is", x.most(5, 1), 0);
        x.child(4);
        edges.is("the faster one has no more yet: the least number", x.most(7, 1), 0);
        edges.is("the faster one at 8", x.most(8, 1), 1);
        edges.is("the faster one at 4", x.most(4, 1), 1);
        edges.is("none at 3", x.most(3, 1), -2);
        x.mend(1, 0, 5);
        edges.is("like ones: the least number", x.most(5, 1), 0);
        edges.is("no children", new PennyALap().most(999, 1), -2);
        x.mend(0, 2, 0);
        x.mend(1, 2, 0);
        edges.is("stops 0", x.most(999, 1), -2);
        edges.refused("most(0, 1)", SOME, -2, y -> y.most(0, 1));
        edges.refused("most(999, 1)", FRESH, -2, y -> y.most(999, 1));
    }

    private void mostPence() {
        edges.term(2, "MOST PENCE (PAID; of like ones the least number): whose (NOT: no CHILDREN).");
        PennyALap x = oneChild(5);
        edges.is("nothing is paid at all", x.most(0, 2), 0);
        x.child(5);
        edges.is("like ones with nothing", x.most(999, 2), 0);
        x.sponsor(0, 9);
        x.sponsor(1, 10);
        edges.is("a penny more", x.most(5, 2), 1);
        x.mend(1, 8, 9);
        edges.is("paid, not owed: like ones", x.most(5, 2), 0);
        x.mend(0, 8, 8);
        edges.is("paid, not owed", x.most(5, 2), 1);
        edges.is("at 4 there is nothing", x.most(4, 2), 0);
        x.mend(0, 12, 999);
        x.mend(0, 8, 9);
        x.mend(1, 0, 4);
        edges.is("the other runs more", x.most(20, 1), 1);
        edges.is("the prize is none of it: like ones", x.most(20, 2), 0);
        edges.refused("most(0, 2)", FRESH, -2, y -> y.most(0, 2));
        edges.is("stops 0", FULL.made().most(0, 2), 0);
    }

    private void surprised() {
        edges.term(2, "which SPONSORS are SURPRISED (bits)");
        edges.is("no sponsors", oneChild(1).most(999, 0), 0);
        edges.is("no children", new PennyALap().most(999, 0), 0);
        PennyALap x = oneChild(1);
        for (int s = 0; s < 16; s++) {
            x.sponsor(0, s);
            x.mend(s, 8, 7);
        }
        edges.is("8 pence and more of 7", x.most(1, 0), 0xff00);
        edges.is("the first has nothing to pay", x.most(999, 0), 0xfffe);
        x.mend(0, 4, 1);
        edges.is("the first and the last", x.most(999, 0), 0xffff);
        edges.is("nobody by no lap", x.most(0, 0), 0);
    }

    private void mostRefused() {
        edges.promise(12, "SURPRISED: bits (what 0), MOST LAPS (1), MOST PENCE (2). BAD; NOT.");
        for (int what = 0; what <= 2; what++) {
            int w = what;
            for (int t : NO_T) {
                edges.refused("most(" + t + ", " + what + ")", SOME, -1, y -> y.most(t, w));
                edges.refused("most(" + t + ", " + what + ")", FRESH, -1, y -> y.most(t, w));
            }
        }
        for (int what : new int[] {-1, 3, MIN, MAX}) {
            edges.refused("most(5, " + what + ")", SOME, -1, y -> y.most(5, what));
        }
        edges.is("most(999, 1)", SOME.made().most(999, 1), 2);
        edges.refused("most(0, 1)", FULL, -2, y -> y.most(0, 1));
    }

    private void owesRefused() {
        edges.promise(13, "What a SPONSOR OWES (what 0), PAYS (1) by so many LAPS (0 .. 99). BAD.");
        PennyALap x = oneSponsor(1, 3);
        x.mend(0, 2, 5);
        for (int what = 0; what <= 1; what++) {
            int w = what;
            edges.is("by none", x.owes(0, 0, what), 0);
            edges.is("by 99, beyond stops", x.owes(0, 99, what), 297);
            for (int laps : NO_LAPS) {
                edges.refused("owes(0, " + laps + ", " + what + ")", SOME, -1, y -> y.owes(0, laps, w));
            }
            for (int sponsor : NO_SPONSOR) {
                edges.refused("owes(" + sponsor + ", 5, " + what + ")", SOME, -1, y -> y.owes(sponsor, 5, w));
            }
            edges.refused("owes(0, 0, " + what + ")", FRESH, -1, y -> y.owes(0, 0, w));
        }
        for (int what : new int[] {-1, 2, MIN, MAX}) {
            edges.refused("owes(0, 5, " + what + ")", SOME, -1, y -> y.owes(0, 5, what));
        }
    }

    private void more() {
        edges.term(2, "ONE MORE: how much more is PAID to a CHILD by one LAP more than told (0 .. 98; STOPS does not matter).");
        PennyALap x = oneSponsor(1, 10);
        x.mend(0, 5, 500);
        x.mend(0, 6, 99);
        edges.is("more(0, 0)", x.more(0, 0), 10);
        edges.is("more(0, 97)", x.more(0, 97), 10);
        edges.is("more(0, 98): the flat comes", x.more(0, 98), 510);
        x.mend(0, 2, 0);
        edges.is("stops 0, more(0, 0)", x.more(0, 0), 10);
        edges.is("stops 0, more(0, 98)", x.more(0, 98), 510);
        x.mend(0, 7, 25);
        edges.is("up to the top", x.more(0, 1), 10);
        edges.is("what the top leaves", x.more(0, 2), 5);
        edges.is("at the top", x.more(0, 3), 0);
        x.mend(0, 8, 24);
        edges.is("what the purse leaves", x.more(0, 2), 4);
        edges.is("paid, not owed: an empty purse", x.more(0, 3), 0);
        edges.is("paid, not owed: an empty purse, more(0, 98)", x.more(0, 98), 0);
        edges.is("no sponsors", oneChild(1).more(0, 0), 0);
        edges.promise(14, "ONE MORE. BAD.");
        for (int laps : new int[] {-1, 99, 100, MIN, MAX}) {
            edges.refused("more(0, " + laps + ")", SOME, -1, y -> y.more(0, laps));
        }
        for (int child : NO_CHILD) {
            edges.refused("more(" + child + ", 0)", SOME, -1, y -> y.more(child, 0));
        }
        edges.refused("more(0, 0)", FRESH, -1, y -> y.more(0, 0));
    }

    private void done() {
        edges.term(2, "DONE: the least LAPS (0 .. 99) from which on to 99 no LAP more brings anything.");
        PennyALap x = oneSponsor(1, 0);
        edges.is("nothing ever comes", x.done(0), 0);
        edges.is("no sponsors", oneChild(1).done(0), 0);
        x.mend(0, 5, 7);
        edges.is("a flat for 10", x.done(0), 10);
        x.mend(0, 6, 0);
        edges.is("a flat for none", x.done(0), 0);
        x.mend(0, 6, 1);
        edges.is("a flat for 1", x.done(0), 1);
        x.mend(0, 6, 98);
        edges.is("a flat for 98", x.done(0), 98);
        x.mend(0, 6, 99);
        edges.is("a flat for 99", x.done(0), 99);
        x.mend(0, 5, 0);
        x.mend(0, 4, 1);
        edges.is("each lap brings something", x.done(0), 99);
        x.mend(0, 2, 3);
        edges.is("stops does not matter", x.done(0), 99);
        x.mend(0, 7, 98);
        edges.is("the last brings nothing", x.done(0), 98);
        x.mend(0, 8, 0);
        edges.is("an empty purse", x.done(0), 0);
        x.sponsor(0, 0);
        x.mend(1, 5, 9);
        x.mend(1, 6, 50);
        edges.is("laps ahead of it bring nothing", x.done(0), 50);
        edges.promise(15, "DONE. BAD.");
        for (int child : NO_CHILD) {
            edges.refused("done(" + child + ")", SOME, -1, y -> y.done(child));
        }
        edges.refused("done(0)", FRESH, -1, y -> y.done(0));
    }

    private void lapOrSum() {
        edges.term(2, "LAP OR SUM: the least LAPS (0 .. 99) by which a SPONSOR OWES at least v (0 .. 9999); NOT.");
        PennyALap x = oneSponsor(1, 101);
        edges.is("v 0", x.lapOrSum(0, 0), 0);
        edges.is("v 1", x.lapOrSum(0, 1), 1);
        edges.is("v 101", x.lapOrSum(0, 101), 1);
        edges.is("v 102", x.lapOrSum(0, 102), 2);
        edges.is("v 9999", x.lapOrSum(0, 9999), 99);
        x.mend(0, 4, 100);
        edges.is("99 laps owe 9900", x.lapOrSum(0, 9900), 99);
        edges.is("a penny more", x.lapOrSum(0, 9901), -2);
        edges.is("v 9999, never", x.lapOrSum(0, 9999), -2);
        x.mend(0, 8, 5);
        edges.is("owes, whatever it pays", x.lapOrSum(0, 9900), 99);
        x.mend(0, 7, 9900);
        edges.is("just the top", x.lapOrSum(0, 9900), 99);
        x.mend(0, 7, 9899);
        edges.is("beyond the top", x.lapOrSum(0, 9900), -2);
        x.mend(0, 2, 0);
        edges.is("stops does not matter", x.lapOrSum(0, 9899), 99);
        x.mend(0, 5, 3);
        x.mend(0, 6, 0);
        edges.is("owed by no lap", x.lapOrSum(0, 3), 0);
        edges.is("a penny more than by no lap", x.lapOrSum(0, 4), 1);
        edges.promise(16, "LAP OR SUM. BAD; NOT.");
        edges.refused("a top of 30: lapOrSum(3, 31)", SOME, -2, y -> y.lapOrSum(3, 31));
        edges.refused("nothing is owed: lapOrSum(0, 1)", FULL, -2, y -> y.lapOrSum(0, 1));
        edges.refused("lapOrSum(0, 991)", SOME, -2, y -> y.lapOrSum(0, 991));
        for (int v : new int[] {-1, 10000, MIN, MAX}) {
            edges.refused("lapOrSum(0, " + v + ")", SOME, -1, y -> y.lapOrSum(0, v));
        }
        for (int sponsor : NO_SPONSOR) {
            edges.refused("lapOrSum(" + sponsor + ", 9999)", SOME, -1, y -> y.lapOrSum(sponsor, 9999));
        }
        edges.refused("lapOrSum(0, 0)", FRESH, -1, y -> y.lapOrSum(0, 0));
    }

    private void top() {
        edges.term(2, "BEST TOP of a SPONSOR, as if it had none: 0, if the most it OWES by 0 .. 99 LAPS is no more than PURSE; else PURSE (1 at least).");
        PennyALap x = oneSponsor(1, 10);
        x.mend(0, 8, 990);
        edges.is("just the purse", x.top(0), 0);
        x.mend(0, 8, 989);
        edges.is("a penny more than the purse", x.top(0), 989);
        x.mend(0, 7, 5);
        edges.is("as if it had none", x.top(0), 989);
        x.mend(0, 8, 1);
        edges.is("a purse of 1", x.top(0), 1);
        x.mend(0, 8, 0);
        edges.is("an empty purse: 1 at least", x.top(0), 1);
        x.mend(0, 4, 0);
        edges.is("an empty purse, nothing owed", x.top(0), 0);
        x.mend(0, 5, 1);
        x.mend(0, 6, 99);
        edges.is("an empty purse, a penny for 99 laps", x.top(0), 1);
        x.mend(0, 8, 1);
        edges.is("a penny for 99 laps", x.top(0), 0);
        x.mend(0, 4, 200);
        x.mend(0, 8, 9999);
        edges.is("the greatest purse", x.top(0), 9999);
        x.mend(0, 4, 101);
        x.mend(0, 5, 0);
        edges.is("99 times 101 is just 9999", x.top(0), 0);
        x.mend(0, 5, 1);
        edges.is("and a penny", x.top(0), 9999);
        edges.promise(17, "BEST TOP. BAD.");
        for (int sponsor : NO_SPONSOR) {
            edges.refused("top(" + sponsor + ")", SOME, -1, y -> y.top(sponsor));
        }
        edges.refused("top(0)", FRESH, -1, y -> y.top(0));
    }

    private void howLong() {
        edges.term(2, "HOW LONG: the least T by which all are PAID at least v together (less PRIZE as above); NOT.");
        edges.is("v 0 with nobody there", new PennyALap().howLong(0), 0);
        edges.is("v 1 with nobody there", new PennyALap().howLong(1), -2);
        PennyALap x = oneSponsor(30, 10);
        edges.is("v 0", x.howLong(0), 0);
        edges.is("v 1", x.howLong(1), 30);
        edges.is("v 10", x.howLong(10), 30);
        edges.is("v 11", x.howLong(11), 60);
        edges.is("v 330", x.howLong(330), 990);
        edges.is("v 331", x.howLong(331), -2);
        x.child(7);
        x.sponsor(1, 1);
        edges.is("together", x.howLong(14), 30);
        edges.is("together, one more", x.howLong(15), 35);
        PennyALap y = oneSponsor(1, 1);
        Due.law(y, "k=10?9;99");
        edges.is("T 999", y.howLong(11), 999);
        Due.law(y, "k=10?10;99");
        edges.is("T 1000 is none", y.howLong(11), -2);
        PennyALap z = oneSponsor(1, 1);
        edges.is("99 laps", z.howLong(99), 99);
        edges.is("100 laps", z.howLong(100), -2);
        z.mend(0, 5, 1);
        z.mend(0, 6, 0);
        edges.is("paid for no lap", z.howLong(1), 0);
        edges.promise(18, "HOW LONG (v 0 .. 99999). BAD; NOT.");
        PennyALap rich = oneChild(1);
        for (int s = 0; s < 16; s++) {
            rich.sponsor(0, 200);
        }
        // 16 times 50 laps of 200 are 160000, but no purse holds more than 9999: 159984
        edges.is("v 99999", rich.howLong(99999), 32);
        for (int v : new int[] {-1, 100000, MIN, MAX}) {
            edges.refused("howLong(" + v + ")", SOME, -1, w -> w.howLong(v));
            edges.refused("howLong(" + v + ")", FRESH, -1, w -> w.howLong(v));
        }
        edges.refused("howLong(99999)", SOME, -2, w -> w.howLong(99999));
        edges.refused("howLong(1)", FULL, -2, w -> w.howLong(1));
    }

    private void howLongLessPrize() {
        edges.term(2, "(less PRIZE as above); NOT.");
        PennyALap x = oneSponsor(1, 10);
        x.mend(0, 12, 25);
        edges.is("v 0: nobody gets it yet", x.howLong(0), 0);
        edges.is("v 1", x.howLong(1), 3);
        edges.is("v 5", x.howLong(5), 3);
        edges.is("v 6", x.howLong(6), 4);
        edges.is("v 965", x.howLong(965), 99);
        edges.is("v 966", x.howLong(966), -2);
        x.mend(0, 5, 10);
        x.mend(0, 6, 0);
        edges.is("v 10: at minute 0, ahead of the prize", x.howLong(10), 0);
        edges.is("v 11: less the prize", x.howLong(11), 3);
    }

    private void field() {
        edges.term(2, "FIELD: the field is free for M minutes (0 .. 300), one CHILD after the other runs, each some whole LAPS (STOPS at most), each"
            + " fresh: so that most is PAID together (PRIZE left aside), of like ones in fewest minutes, of these the first by LAPS, CHILD by CHILD"
            + " (the least first): that; how many minutes; LAPS of a CHILD.");
        PennyALap x = oneSponsor(10, 10);
        edges.is("M 0: pence", x.field(0, -1), 0);
        edges.is("M 0: minutes", x.field(0, -2), 0);
        edges.is("M 0: laps", x.field(0, 0), 0);
        edges.is("M 9: no whole lap", x.field(9, -1), 0);
        edges.is("M 10: just one", x.field(10, -1), 10);
        edges.is("M 300: 30", x.field(300, 0), 30);
        edges.is("M 300: minutes", x.field(300, -2), 300);
        edges.is("M 299: 29", x.field(299, 0), 29);
        x.mend(0, 2, 3);
        edges.is("stops", x.field(300, 0), 3);
        edges.is("stops: minutes", x.field(300, -2), 30);
        x.mend(0, 2, 0);
        edges.is("stops 0", x.field(300, -1), 0);
        x.mend(0, 2, 3);
        x.mend(0, 12, 999);
        edges.is("the prize is left aside", x.field(300, -1), 30);
        x.child(10);
        x.sponsor(1, 10);
        Due.law(x, "m+5");
        // each fresh: both take 5 for their first lap
        edges.is("each fresh: pence", x.field(10, -1), 20);
        edges.is("each fresh: minutes", x.field(10, -2), 10);
        edges.is("M 9: one of both", x.field(9, -1), 10);
        PennyALap y = new PennyALap();
        for (int c = 0; c < 6; c++) {
            y.child(c + 1);
            y.sponsor(c, 1);
        }
        edges.is("no children left out", y.field(300, -1), 99 + 99 + 1);
        edges.is("the last runs if it must", y.field(300, 2), 1);
        edges.is("no minute for nothing", y.field(300, -2), 300);
        PennyALap z = oneSponsor(5, 0);
        edges.is("nothing is paid: no minutes", z.field(300, -2), 0);
        z.mend(0, 5, 77);
        z.mend(0, 6, 0);
        edges.is("paid for no lap, M 0", z.field(0, -1), 77);
        edges.is("paid for no lap, M 300", z.field(300, -2), 0);
        z.mend(0, 6, 60);
        edges.is("a flat for just 60 laps", z.field(300, 0), 60);
        edges.is("a flat a minute too far", z.field(299, -2), 0);
        z.mend(0, 0, 1);
        z.mend(0, 6, 99);
        edges.is("99 laps", z.field(300, 0), 99);
        edges.is("99 laps: a minute too few", z.field(98, 0), 0);
        fieldToTheEnd();
    }

    /** All minutes go to child 0, and child 1 is paid for, too, though it runs no lap; a purse ends what more laps bring. */
    private void fieldToTheEnd() {
        PennyALap x = oneSponsor(5, 10);
        x.child(5);
        x.sponsor(1, 0);
        x.mend(1, 5, 77);
        x.mend(1, 6, 0);
        edges.is("paid for no lap beside a lap: pence", x.field(5, -1), 87);
        edges.is("paid for no lap beside a lap: laps", x.field(5, 0), 1);
        edges.is("M 300: pence", x.field(300, -1), 677);
        edges.is("M 300: laps", x.field(300, 0), 60);
        x.mend(0, 8, 25);
        edges.is("paid, not owed: pence", x.field(300, -1), 102);
        edges.is("paid, not owed: laps", x.field(300, 0), 3);
        edges.is("paid, not owed: minutes", x.field(300, -2), 15);
        edges.is("paid, not owed: M 14", x.field(14, -1), 97);
        PennyALap y = new PennyALap();
        for (int c = 0; c < 3; c++) {
            y.child(5);
            y.sponsor(c, 10 - c);
        }
        y.mend(0, 2, 1);
        y.mend(2, 5, 77);
        y.mend(2, 6, 0);
        edges.is("no minute is left for the last: pence", y.field(10, -1), 10 + 9 + 77);
        edges.is("no minute is left for the last: laps of 1", y.field(10, 1), 1);
        edges.is("no minute is left for the last: laps of 2", y.field(10, 2), 0);
    }

    private void fieldOfLikeOnes() {
        edges.term(2, "of like ones in fewest minutes, of these the first by LAPS, CHILD by CHILD (the least first)");
        PennyALap x = new PennyALap();
        for (int c = 0; c < 3; c++) {
            x.child(5);
            x.sponsor(c, 10);
        }
        int[] wants = {0, 0, 1};
        for (int c = 0; c < 3; c++) {
            edges.is("one lap of three children: laps of " + c, x.field(9, c), wants[c]);
        }
        x.mend(2, 2, 0);
        edges.is("the last stops: laps of 1", x.field(9, 1), 1);
        x.mend(0, 0, 4);
        edges.is("fewest minutes: not both run at 9", x.field(9, 0), 2);
        edges.is("fewest minutes: 8 of 9", x.field(9, -2), 8);
        edges.is("fewest minutes: 8 of 8", x.field(8, -2), 8);
        edges.is("fewest minutes: laps of 0 at 8", x.field(8, 0), 2);
        edges.is("fewest minutes: laps of 0 at 5", x.field(5, 0), 1);
        edges.is("fewest minutes at 5", x.field(5, -2), 4);
        x.mend(1, 4, 11);
        edges.is("a penny outweighs a minute", x.field(5, 1), 1);
        edges.is("a penny outweighs a minute: pence", x.field(5, -1), 11);
    }

    private void fieldRefused() {
        edges.promise(19, "FIELD: that (child -1), how many minutes (-2), LAPS of a CHILD. BAD.");
        for (int child : new int[] {-1, -2, 0}) {
            for (int m : new int[] {-1, 301, MIN, MAX}) {
                edges.refused("field(" + m + ", " + child + ")", SOME, -1, y -> y.field(m, child));
            }
        }
        for (int child : new int[] {-3, 3, 6, MIN, MAX}) {
            edges.refused("field(5, " + child + ")", SOME, -1, y -> y.field(5, child));
        }
        edges.refused("field(0, 0)", FRESH, -1, y -> y.field(0, 0));
        edges.is("field(300, -1) with nobody there", new PennyALap().field(300, -1), 0);
        edges.is("field(300, -2) with nobody there", new PennyALap().field(300, -2), 0);
    }
}
