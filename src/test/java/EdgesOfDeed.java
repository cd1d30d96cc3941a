/** The edges of promises 29 to 36, and of what Terms 4 says of what is in deed. */
final class EdgesOfDeed extends EdgesOf {
    EdgesOfDeed(Edges edges) {
        super(edges);
    }

    @Override
    void all() {
        runs();
        runRefused();
        asked();
        askRefused();
        newField();
        led();
        ledRefused();
        image();
        back();
        changes();
        changesThatAreNone();
        doneAgain();
        fortyAtMost();
        undoRefused();
    }

    private void runs() {
        edges.term(4, "IN DEED: a CHILD RUNS a LAP (its minutes go on; none beyond STOPS)");
        PennyALap x = new PennyALap();
        x.child(4);
        x.mend(0, 2, 2);
        edges.is("the first lap", x.run(0), 4);
        edges.is("its minutes go on", x.run(0), 8);
        edges.is("none beyond stops", x.run(0), -5);
        edges.is("laps", x.of(0, 15), 2);
        edges.is("minutes", x.of(0, 16), 8);
        x.mend(0, 2, 3);
        edges.is("stops one more", x.run(0), 12);
        x.mend(0, 2, 1);
        edges.is("stops far behind", x.run(0), -5);
        x.mend(0, 2, 99);
        for (int laps = 4; laps <= 99; laps++) {
            edges.is("lap " + laps, x.run(0), 4 * laps);
        }
        edges.is("lap 100", x.run(0), -5);
        x.anew();
        x.mend(0, 2, 0);
        edges.is("stops 0", x.run(0), -5);
    }

    private void runRefused() {
        edges.promise(29, "A CHILD RUNS a LAP: its minutes then. BAD; STATE: STOPS, or they would be more than 9999.");
        for (int child : NO_CHILD) {
            edges.refused("run(" + child + ")", SOME, -1, y -> y.run(child));
        }
        edges.refused("run(0)", FRESH, -1, y -> y.run(0));
        edges.refused("run(6)", FULL, -1, y -> y.run(6));
        edges.refused("stops: run(0)", FULL, -5, y -> y.run(0));
        // the most minutes there are: each lap is held within 99, so that 9999 is never passed
        PennyALap x = new PennyALap();
        x.child(30);
        Due.law(x, "9999");
        for (int laps = 1; laps <= 99; laps++) {
            edges.is("lap " + laps + " of 99 minutes", x.run(0), 99 * laps);
        }
        edges.is("it stops at 9801", x.run(0), -5);
        edges.is("of(0, 16)", x.of(0, 16), 9801);
    }

    private void asked() {
        edges.term(4, "a SPONSOR is ASKED: it PAYS what it has to by the LAPS there are, less what it has PAID (0 at least)");
        PennyALap x = new PennyALap();
        x.child(1);
        x.sponsor(0, 10);
        edges.is("no laps", x.ask(0), 0);
        x.run(0);
        edges.is("a lap", x.ask(0), 10);
        edges.is("at once again", x.ask(0), 0);
        x.run(0);
        x.run(0);
        edges.is("two more", x.ask(0), 20);
        x.mend(0, 4, 9);
        edges.is("it has paid more than it owes: 0 at least", x.ask(0), 0);
        edges.is("nothing is given back", x.of(0, 14), 30);
        x.run(0);
        edges.is("it still has paid more", x.ask(0), 6);
        x.mend(0, 8, 36);
        x.run(0);
        edges.is("the purse is empty", x.ask(0), 0);
        x.mend(0, 8, 37);
        edges.is("a penny is in it", x.ask(0), 1);
        edges.is("of(0, 14)", x.of(0, 14), 37);
        x.mend(0, 7, 37);
        x.mend(0, 8, 9999);
        edges.is("the top is reached", x.ask(0), 0);
        x.mend(0, 7, 38);
        edges.is("a penny below the top", x.ask(0), 1);
        x.mend(0, 5, 999);
        x.mend(0, 7, 0);
        x.mend(0, 6, 6);
        edges.is("need is a lap away", x.ask(0), 45 - 38);
        x.run(0);
        edges.is("need is reached", x.ask(0), 9 + 999);
    }

    private void askRefused() {
        edges.promise(30, "A SPONSOR is ASKED: what it PAYS now. BAD.");
        for (int sponsor : NO_SPONSOR) {
            edges.refused("ask(" + sponsor + ")", SOME, -1, y -> y.ask(sponsor));
        }
        edges.refused("ask(0)", FRESH, -1, y -> y.ask(0));
        edges.refused("ask(16)", FULL, -1, y -> y.ask(16));
        edges.is("ask(15)", FULL.made().ask(15), 0);
    }

    private void newField() {
        edges.term(4, "A NEW FIELD: no LAPS, nothing PAID.");
        PennyALap x = SOME.made();
        x.anew();
        for (int child = 0; child < 3; child++) {
            edges.is("laps of " + child, x.of(child, 15), 0);
            edges.is("minutes of " + child, x.of(child, 16), 0);
        }
        for (int sponsor = 0; sponsor < 4; sponsor++) {
            edges.is("paid by " + sponsor, x.of(sponsor, 14), 0);
        }
        edges.is("a lap is as fresh as the first", x.run(0), x.lap(0, 0));
        edges.is("numbers of mend() stay", x.of(1, 8), 50);
        edges.promise(31, "A NEW FIELD: LAPS of all till now.");
        PennyALap y = new PennyALap();
        edges.is("nobody there", y.anew(), 0);
        y.child(1);
        y.child(1);
        edges.is("no laps", y.anew(), 0);
        y.run(0);
        y.run(1);
        y.run(1);
        edges.is("three laps", y.anew(), 3);
        edges.is("led(2)", y.led(2), 3);
    }

    private void led() {
        edges.term(4, "LED: LAPS of all, pence PAID, fields, minutes of all CHILDREN, who was SURPRISED when asked (how often).");
        PennyALap x = new PennyALap();
        for (int what = 0; what <= 4; what++) {
            edges.is("at first, led(" + what + ")", x.led(what), 0);
        }
        x.child(3);
        x.sponsor(0, 10);
        x.mend(0, 8, 20);
        x.run(0);
        x.ask(0);
        edges.is("owes less than its purse: no surprise", x.led(4), 0);
        x.run(0);
        x.ask(0);
        edges.is("owes just its purse: no surprise", x.led(4), 0);
        x.run(0);
        edges.is("surprised only when asked", x.led(4), 0);
        x.ask(0);
        edges.is("owes more", x.led(4), 1);
        x.ask(0);
        edges.is("how often", x.led(4), 2);
        int[] wants = {3, 20, 0, 9, 2};
        for (int time = 0; time < 3; time++) {
            for (int what = 0; what <= 4; what++) {
                edges.is("led(" + what + ") behind " + time + " new fields", x.led(what), what == 2 ? time : wants[what]);
            }
            x.anew();
        }
        x.mend(0, 2, 0);
        x.run(0);
        edges.is("a lap that was not run is not led", x.led(0), 3);
        edges.is("its minutes are not", x.led(3), 9);
    }

    private void ledRefused() {
        edges.promise(32, "LED: LAPS (what 0), pence (1), fields (2), minutes (3), surprises (4). BAD.");
        PennyALap x = SOME.made();
        int[] wants = {7, 84, 1, 32, 1};
        for (int what = 0; what <= 4; what++) {
            edges.is("led(" + what + ")", x.led(what), wants[what]);
        }
        for (int what : new int[] {-1, 5, MIN, MAX}) {
            edges.refused("led(" + what + ")", SOME, -1, y -> y.led(what));
            edges.refused("led(" + what + ")", FRESH, -1, y -> y.led(what));
        }
    }

    private void image() {
        edges.promise(33, "AN IMAGE is kept: LAPS.");
        PennyALap x = new PennyALap();
        edges.is("of nobody", x.image(), 0);
        edges.is("laid back", x.back(), 0);
        x.child(5);
        x.run(0);
        edges.is("a lap", x.image(), 1);
        edges.is("a lap, kept again", x.image(), 1);
        x.run(0);
        edges.is("two", x.image(), 2);
        edges.is("the latest is laid back", x.back(), 2);
        edges.term(4, "AN IMAGE keeps LAPS, minutes, what was PAID, what LED tells.");
        PennyALap y = SOME.made();
        edges.is("laps led in it", y.back(), 6);
        int[][] wants = {{0, 15, 2}, {1, 15, 3}, {2, 15, 0}, {0, 16, 8}, {1, 16, 18}, {2, 16, 0}, {0, 14, 20}, {1, 14, 50}, {3, 14, 0}};
        for (int[] want : wants) {
            edges.is("of(" + want[0] + ", " + want[1] + ")", y.of(want[0], want[1]), want[2]);
        }
        int[] led = {6, 77, 1, 29, 1};
        for (int what = 0; what <= 4; what++) {
            edges.is("led(" + what + ")", y.led(what), led[what]);
        }
        edges.is("no numbers of mend()", y.count(3), 10);
        y.run(0);
        y.mend(0, 8, 1);
        y.ask(0);
        y.anew();
        y.run(2);
        y.back();
        for (int what = 0; what <= 4; what++) {
            edges.is("behind a surprise and a new field, led(" + what + ")", y.led(what), led[what]);
        }
    }

    private void back() {
        edges.promise(34, "It is laid back (CHILDREN, SPONSORS that came since: no LAPS, nothing PAID): LAPS. STATE: there is none.");
        edges.refused("back()", FRESH, -5, PennyALap::back);
        edges.refused("back()", FULL, -5, PennyALap::back);
        PennyALap x = new PennyALap();
        x.image();
        x.child(5);
        x.child(6);
        x.sponsor(1, 10);
        x.run(0);
        x.run(1);
        x.ask(0);
        edges.is("ahead of all", x.back(), 0);
        edges.is("a child that came since: laps", x.of(1, 15), 0);
        edges.is("a child that came since: minutes", x.of(1, 16), 0);
        edges.is("a sponsor that came since: paid", x.of(0, 14), 0);
        edges.is("they are still there", x.count(0) + x.count(1), 3);
        edges.is("led(1)", x.led(1), 0);
        x.run(1);
        edges.is("laid back twice", x.back(), 0);
        edges.is("of(1, 15)", x.of(1, 15), 0);
        for (int c = 2; c < 6; c++) {
            x.child(5);
        }
        for (int s = 1; s < 16; s++) {
            x.sponsor(5, 1);
        }
        x.run(5);
        x.ask(15);
        x.back();
        edges.is("the last child: laps", x.of(5, 15), 0);
        edges.is("the last child: minutes", x.of(5, 16), 0);
        edges.is("the last sponsor: paid", x.of(15, 14), 0);
        edges.is("an image of no laps is one", x.back(), 0);
    }

    private void changes() {
        edges.term(4, "CHANGES (all numbers of mend(); telling the same number is none) can be UNDONE, the latest first");
        PennyALap x = new PennyALap();
        x.child(5);
        x.sponsor(0, 5);
        int[] was = new int[13];
        for (int what = 0; what <= 12; what++) {
            was[what] = x.of(0, what);
            x.mend(0, what, was[what] == 3 ? 2 : 3);
            edges.is("a change of " + what, x.count(3), what + 1);
            x.mend(0, what, was[what] == 3 ? 2 : 3);
            edges.is("the same number is none: " + what, x.count(3), what + 1);
        }
        for (int what = 12; what >= 0; what--) {
            edges.is("undo()", x.undo(), what);
            edges.is("undone: of(0, " + what + ")", x.of(0, what), was[what]);
            if (what > 0) {
                edges.is("not yet: of(0, " + (what - 1) + ")", x.of(0, what - 1), was[what - 1] == 3 ? 2 : 3);
            }
        }
        x.mend(0, 0, 6);
        x.mend(0, 0, 7);
        x.mend(0, 0, 5);
        edges.is("back to what it was is a change", x.count(3), 3);
        x.undo();
        edges.is("of the same number the latest first", x.of(0, 0), 7);
        x.undo();
        edges.is("then the one ahead", x.of(0, 0), 6);
    }

    private void changesThatAreNone() {
        edges.term(4, "deeds are none.");
        PennyALap x = SOME.made();
        int changes = x.count(3);
        x.run(0);
        x.ask(0);
        x.anew();
        x.image();
        x.back();
        x.child(9);
        x.sponsor(0, 9);
        x.sponsors(3, 0, 1);
        x.feed('1');
        x.law();
        x.body(0);
        x.act(0, 0, 0);
        x.keep(0, 0);
        x.row(0, 1, 3);
        x.put(0, 0, 1);
        x.shift(0, 0, 0, 1, 1);
        x.run(1);
        edges.is("count(3)", x.count(3), changes);
        edges.is("redo() still goes", x.redo(), 1);
        edges.is("undo()", x.undo(), changes);
        edges.is("undo() takes no lap", x.of(1, 15), 1);
        x.undo();
        edges.is("undo() of the one ahead: the prize", x.of(0, 12), 0);
        edges.is("of(1, 15)", x.of(1, 15), 1);
    }

    private void doneAgain() {
        edges.term(4, "and DONE AGAIN (as long as no other came behind)");
        PennyALap x = new PennyALap();
        x.mend(0, 12, 1);
        x.mend(0, 12, 2);
        x.mend(0, 12, 3);
        x.undo();
        x.undo();
        edges.is("redo()", x.redo(), 1);
        edges.is("of(0, 12)", x.of(0, 12), 2);
        x.mend(0, 12, 2);
        edges.is("the same number came behind: that is none", x.redo(), 0);
        edges.is("of(0, 12)", x.of(0, 12), 3);
        edges.is("no more", x.redo(), -5);
        x.undo();
        x.mend(0, 12, 1000);
        x.mend(1, 12, 5);
        edges.is("a refused one came behind: that is none", x.redo(), 0);
        x.undo();
        x.undo();
        x.mend(0, 9, 4);
        edges.is("another came behind", x.redo(), -5);
        edges.is("of(0, 12)", x.of(0, 12), 1);
        edges.is("count(3)", x.count(3), 2);
        edges.is("undo() of the other", x.undo(), 1);
        edges.is("redo() of the other", x.redo(), 0);
        edges.is("of(0, 9)", x.of(0, 9), 4);
    }

    private void fortyAtMost() {
        edges.term(4, "40 at most are kept");
        PennyALap x = new PennyALap();
        for (int i = 1; i <= 39; i++) {
            x.mend(0, 12, i);
        }
        edges.is("39", x.count(3), 39);
        x.mend(0, 12, 40);
        edges.is("40", x.count(3), 40);
        x.mend(0, 12, 41);
        edges.is("41", x.count(3), 40);
        x.mend(0, 12, 42);
        edges.is("42", x.count(3), 40);
        for (int left = 39; left >= 0; left--) {
            edges.is("undo()", x.undo(), left);
        }
        edges.is("the two oldest are not kept", x.undo(), -5);
        edges.is("of(0, 12)", x.of(0, 12), 2);
        for (int left = 39; left >= 0; left--) {
            edges.is("redo()", x.redo(), left);
        }
        edges.is("redo(), no more", x.redo(), -5);
        edges.is("of(0, 12)", x.of(0, 12), 42);
        for (int i = 0; i < 10; i++) {
            x.undo();
        }
        x.mend(0, 12, 500);
        edges.is("30 and one more", x.count(3), 31);
        for (int i = 501; i <= 509; i++) {
            x.mend(0, 12, i);
        }
        edges.is("40 again", x.count(3), 40);
        x.mend(0, 12, 510);
        edges.is("and no more", x.count(3), 40);
        for (int i = 0; i < 40; i++) {
            x.undo();
        }
        edges.is("three are not kept", x.of(0, 12), 3);
        fortyOfMany();
    }

    /** 44 changes of three numbers in turn: each that is kept goes back to its own number. */
    private void fortyOfMany() {
        PennyALap x = new PennyALap();
        x.child(1);
        x.sponsor(0, 0);
        int[] whats = {12, 5, 7};
        for (int i = 0; i < 44; i++) {
            x.mend(0, whats[i % 3], 100 + i);
        }
        for (int i = 43; i >= 4; i--) {
            edges.is("undo() of many", x.undo(), i - 4);
            edges.is("undone: " + i, x.of(0, whats[i % 3]), i < 3 ? 0 : 100 + i - 3);
        }
        edges.is("the four oldest are not kept", x.undo(), -5);
        for (int i = 4; i < 44; i++) {
            edges.is("redo() of many", x.redo(), 43 - i);
            edges.is("done again: " + i, x.of(0, whats[i % 3]), 100 + i);
        }
    }

    private void undoRefused() {
        edges.promise(35, "UNDONE: how many may still be. STATE: none.");
        edges.refused("undo()", FRESH, -5, PennyALap::undo);
        PennyALap x = SOME.made();
        for (int left = 9; left >= 0; left--) {
            edges.is("undo()", x.undo(), left);
        }
        edges.is("undo(), none left", x.undo(), -5);
        edges.is("as it was at first: of(0, 12)", x.of(0, 12), 0);
        edges.is("all may be done again: redo()", x.redo(), 11);
        edges.promise(36, "DONE AGAIN: how many may still be. STATE: none.");
        edges.refused("redo()", FRESH, -5, PennyALap::redo);
        edges.refused("redo()", FULL, -5, PennyALap::redo);
        PennyALap y = SOME.made();
        edges.is("redo()", y.redo(), 1);
        edges.is("of(3, 7)", y.of(3, 7), 40);
        edges.is("redo(), the last", y.redo(), 0);
        edges.is("of(0, 10)", y.of(0, 10), 5);
        edges.is("redo(), none left", y.redo(), -5);
        edges.is("count(3)", y.count(3), 12);
    }
}
