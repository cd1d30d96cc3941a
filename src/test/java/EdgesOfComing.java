/** The edges of promises 20 to 22, and of what Terms 3 says of what is coming in. */
final class EdgesOfComing extends EdgesOf {
    EdgesOfComing(Edges edges) {
        super(edges);
    }

    @Override
    void all() {
        weekByWeek();
        reminded();
        reminders();
        byWeeks();
        firstCount();
        whenToRemind();
        comesRefused();
        byRefused();
        remindRefused();
    }

    /** A child with a lap a minute, a sponsor who pays so much by T 1, PROMPT as told, and an empty row of bytes. */
    private static PennyALap due(int pence, int prompt) {
        PennyALap x = new PennyALap();
        x.child(1);
        x.sponsor(0, pence);
        x.mend(0, 10, prompt);
        x.row(0, 0, 0);
        return x;
    }

    private void weekByWeek() {
        edges.term(3, "COMING IN: of what SPONSORS PAY by T, week by week: each week of what each still has to PAY PROMPT twelfths come (cut;"
            + " 1 penny at least, if any is left)");
        PennyALap x = due(100, 8);
        int[] wants = {0, 66, 88, 96, 98, 99, 100, 100, 100};
        for (int w = 0; w < wants.length; w++) {
            edges.is("8 twelfths of 100, " + w + " weeks", x.comes(0, 100 + w), wants[w]);
        }
        edges.is("prompt 12: all at once", due(100, 12).comes(0, 101), 100);
        edges.is("prompt 0: a penny", due(100, 0).comes(0, 101), 1);
        edges.is("prompt 0: a penny each week", due(100, 0).comes(0, 160), 60);
        edges.is("prompt 0: no more than is left", due(3, 0).comes(0, 160), 3);
        edges.is("11 pence by a twelfth: a penny at least", due(11, 1).comes(0, 101), 1);
        edges.is("23 pence by a twelfth, cut", due(23, 1).comes(0, 101), 1);
        edges.is("24 pence by a twelfth", due(24, 1).comes(0, 101), 2);
        edges.is("a single penny", due(1, 8).comes(0, 101), 1);
        edges.is("nothing to pay: nothing comes", due(0, 8).comes(0, 160), 0);
        edges.is("by no lap nothing comes", due(100, 8).comes(0, 60), 0);
        PennyALap y = due(100, 8);
        y.mend(0, 8, 50);
        edges.is("paid, not owed", y.comes(0, 101), 33);
        y.mend(0, 12, 40);
        edges.is("less no prize", y.comes(0, 160), 50);
        y.sponsor(0, 100);
        edges.is("each for itself", y.comes(0, 101), 33 + 66);
    }

    private void reminded() {
        edges.term(3, "in a week with a reminder REMINDED times as much (all that is left at most).");
        PennyALap x = due(120, 3);
        Due.row(x, 0, 0, 0);
        int[] wants = {30, 60, 90, 120};
        for (int times = 1; times <= 4; times++) {
            x.mend(0, 11, times);
            edges.is(times + " times 30", x.comes(0, 101), wants[times - 1]);
        }
        x.mend(0, 10, 4);
        edges.is("4 times 40 of 120", x.comes(0, 101), 120);
        x.mend(0, 11, 3);
        edges.is("3 times 40 is all", x.comes(0, 101), 120);
        x.mend(0, 4, 119);
        edges.is("3 times 39: the cut comes first", x.comes(0, 101), 117);
        x.mend(0, 10, 0);
        edges.is("3 times a penny", x.comes(0, 101), 3);
        x.mend(0, 4, 2);
        edges.is("3 times a penny of 2", x.comes(0, 101), 2);
        x.mend(0, 4, 0);
        edges.is("of nothing", x.comes(0, 101), 0);
    }

    private void reminders() {
        edges.term(3, "REMINDERS: a ROW of bytes on a SHELF: weeks (0 .. 59; others do not matter).");
        PennyALap x = due(100, 0);
        Due.row(x, 0, 0, -1, 60, 61, 127, -128);
        edges.is("others do not matter", x.comes(0, 160), 60);
        Due.row(x, 0, 0, 0);
        edges.is("week 0, 1 week", x.comes(0, 101), 2);
        edges.is("week 0, no weeks", x.comes(0, 100), 0);
        Due.row(x, 0, 0, 59);
        edges.is("week 59, 59 weeks", x.comes(0, 159), 59);
        edges.is("week 59, 60 weeks", x.comes(0, 160), 61);
        Due.row(x, 0, 0, 5, 5, 5);
        edges.is("a week that stands thrice", x.comes(0, 106), 7);
        edges.is("ahead of it", x.comes(0, 105), 5);
        x.row(0, 0, 60);
        for (int i = 0; i < 60; i++) {
            x.put(0, i, i);
        }
        edges.is("all sixty", x.comes(0, 150), 100);
        edges.is("all sixty, 49 weeks", x.comes(0, 149), 98);
        x.row(0, 0, 0);
        edges.is("an empty row", x.comes(0, 160), 60);
    }

    private void byWeeks() {
        edges.term(3, "What has come in by w weeks (0 .. 60)");
        PennyALap x = due(200, 0);
        edges.is("w 0", x.comes(0, 100), 0);
        edges.is("w 1", x.comes(0, 101), 1);
        edges.is("w 60", x.comes(0, 160), 60);
        edges.refused("w 61", SOME, -1, y -> y.comes(2, 161));
    }

    private void firstCount() {
        edges.term(3, "the first count of weeks (0 .. 60) by which at least x of twelve (0 .. 12) of all have come; NOT.");
        PennyALap x = due(60, 0);
        edges.is("x 0", x.by(0, 100), 0);
        edges.is("x 1: 5 of 60", x.by(0, 101), 5);
        edges.is("x 11: 55 of 60", x.by(0, 111), 55);
        edges.is("x 12: just by 60 weeks", x.by(0, 112), 60);
        x.mend(0, 4, 61);
        edges.is("x 12: a penny too much", x.by(0, 112), -2);
        edges.is("x 1: 61 by 12 is more than 5", x.by(0, 101), 6);
        edges.is("x 11: 55.9", x.by(0, 111), 56);
        edges.is("all of nothing, x 12", due(0, 8).by(0, 112), 0);
        edges.is("all of nothing by no lap, x 12", due(9, 8).by(0, 12), 0);
        PennyALap nobody = new PennyALap();
        nobody.row(0, 0, 0);
        edges.is("nobody there, x 12", nobody.by(0, 99912), 0);
        Due.row(x, 0, 0, 59);
        edges.is("the last week has a reminder", x.by(0, 112), 60);
        x.mend(0, 4, 62);
        edges.is("it brings no more than a penny more", x.by(0, 112), -2);
        PennyALap y = due(100, 12);
        edges.is("all in the first week, x 1", y.by(0, 101), 1);
        edges.is("all in the first week, x 12", y.by(0, 112), 1);
    }

    private void whenToRemind() {
        edges.term(3, "WHEN TO REMIND: the one week more (0 .. w less 1) by a reminder in which most has come by w weeks (of like ones the least;"
            + " also one that has one: nothing more): that; how much then; NOT: w is 0.");
        PennyALap x = due(100, 0);
        edges.is("w 0: the week", x.remind(0, 100, 0), -2);
        edges.is("w 0: how much", x.remind(0, 100, 1), -2);
        edges.is("w 1: the week", x.remind(0, 101, 0), 0);
        edges.is("w 1: how much", x.remind(0, 101, 1), 2);
        edges.is("w 60, like ones: the least", x.remind(0, 160, 0), 0);
        edges.is("w 60: how much", x.remind(0, 160, 1), 61);
        Due.row(x, 0, 0, 0);
        edges.is("week 0 has one, w 1: the week", x.remind(0, 101, 0), 0);
        edges.is("week 0 has one, w 1: nothing more", x.remind(0, 101, 1), 2);
        edges.is("week 0 has one, w 2: the week", x.remind(0, 102, 0), 1);
        edges.is("week 0 has one, w 2: how much", x.remind(0, 102, 1), 4);
        x.row(0, 0, 60);
        for (int i = 0; i < 60; i++) {
            x.put(0, i, i);
        }
        x.put(0, 59, 0);
        edges.is("all but the last have one", x.remind(0, 160, 0), 0);
        x.mend(0, 4, 200);
        edges.is("all but the last have one, and all is not there yet", x.remind(0, 160, 0), 59);
        edges.is("all but the last have one: how much", x.remind(0, 160, 1), 120);
        edges.is("all but the last have one, w 59: the least", x.remind(0, 159, 0), 0);
        edges.is("nothing more", x.remind(0, 159, 1), 118);
        edges.is("nothing to come: the least", due(0, 8).remind(0, 160, 0), 0);
        edges.is("nothing to come: how much", due(0, 8).remind(0, 160, 1), 0);
        // 99 by a twelfth: 8, 7, 7 ..; reminded in week 2 it is 8 + 7 + 14, in week 0 16 + 6 + 6
        PennyALap y = due(99, 1);
        edges.is("the last week is best", y.remind(0, 103, 0), 2);
        edges.is("the last week is best: how much", y.remind(0, 103, 1), 29);
        PennyALap z = due(100, 12);
        edges.is("all comes at once: the least", z.remind(0, 160, 0), 0);
        edges.is("all comes at once: how much", z.remind(0, 160, 1), 100);
        Due.row(z, 0, 0, -1, 60);
        z.mend(0, 10, 0);
        edges.is("others do not matter", z.remind(0, 160, 1), 61);
    }

    /** A call with 100 T and the weeks. */
    private interface OfMinutes {
        int on(PennyALap x, int tw);
    }

    /** Ten minutes a lap, 5 pence each, all at once: what comes by 1 week and by 60 tells the laps by T. */
    private void byMinutes(String call, OfMinutes how) {
        PennyALap x = new PennyALap();
        x.child(10);
        x.sponsor(0, 5);
        x.mend(0, 10, 12);
        x.row(0, 0, 0);
        int[][] wants = {{1, 0}, {60, 0}, {901, 0}, {1001, 5}, {1060, 5}, {49960, 245}, {50001, 250}, {50060, 250}, {50960, 250}, {51001, 255},
            {98960, 490}, {99001, 495}, {99960, 495}};
        for (int[] want : wants) {
            edges.is(call + " with " + want[0], how.on(x, want[0]), want[1]);
        }
    }

    private void comesRefused() {
        edges.promise(20, "COMING IN by w weeks. BAD, -11, -12 (no ROW of bytes).");
        byMinutes("comes", (x, tw) -> x.comes(0, tw));
        for (int shelf : NO_SHELF) {
            edges.refused("comes(" + shelf + ", 101)", SOME, -1, y -> y.comes(shelf, 101));
        }
        for (int tw : new int[] {-1, -100, 61, 99, 161, 199, 99961, 99999, 100000, MIN, MAX}) {
            edges.refused("comes(2, " + tw + ")", SOME, -1, y -> y.comes(2, tw));
            edges.refused("nothing there, and bad: comes(0, " + tw + ")", SOME, -1, y -> y.comes(0, tw));
            edges.refused("of another kind, and bad: comes(3, " + tw + ")", SOME, -1, y -> y.comes(3, tw));
        }
        edges.is("comes(2, 99960)", SOME.made().comes(2, 99960) > 0 ? 1 : 0, 1);
        edges.is("comes(2, 0)", SOME.made().comes(2, 0), 0);
        edges.refused("comes(0, 101)", SOME, -11, y -> y.comes(0, 101));
        edges.refused("comes(0, 0)", FRESH, -11, y -> y.comes(0, 0));
        for (int shelf : new int[] {1, 3, 4, 5}) {
            edges.refused("comes(" + shelf + ", 101)", SOME, -12, y -> y.comes(shelf, 101));
        }
        edges.refused("booleans: comes(0, 101)", FULL, -12, y -> y.comes(0, 101));
        edges.refused("ints of no elements: comes(4, 101)", FULL, -12, y -> y.comes(4, 101));
    }

    private void byRefused() {
        edges.promise(21, "By which count of weeks x of twelve have come. BAD, -11, -12; NOT.");
        PennyALap x = new PennyALap();
        x.child(10);
        x.sponsor(0, 1);
        x.mend(0, 10, 0);
        x.row(0, 0, 0);
        edges.is("by(0, 49912): 49 laps by T 499", x.by(0, 49912), 49);
        edges.is("by(0, 50000)", x.by(0, 50000), 0);
        edges.is("by(0, 50012): 50 laps by T 500", x.by(0, 50012), 50);
        edges.is("by(0, 50912): 50 laps by T 509", x.by(0, 50912), 50);
        for (int shelf : NO_SHELF) {
            edges.refused("by(" + shelf + ", 101)", SOME, -1, y -> y.by(shelf, 101));
        }
        for (int tx : new int[] {-1, -100, 13, 60, 99, 113, 99913, 100000, MIN, MAX}) {
            edges.refused("by(2, " + tx + ")", SOME, -1, y -> y.by(2, tx));
            edges.refused("nothing there, and bad: by(0, " + tx + ")", SOME, -1, y -> y.by(0, tx));
            edges.refused("of another kind, and bad: by(3, " + tx + ")", SOME, -1, y -> y.by(3, tx));
        }
        edges.is("by(2, 12)", SOME.made().by(2, 12), 0);
        edges.is("by(2, 99901)", SOME.made().by(2, 99901) > 0 ? 1 : 0, 1);
        edges.refused("by(0, 100)", SOME, -11, y -> y.by(0, 100));
        edges.refused("by(5, 0)", FRESH, -11, y -> y.by(5, 0));
        for (int shelf : new int[] {1, 3, 4, 5}) {
            edges.refused("by(" + shelf + ", 101)", SOME, -12, y -> y.by(shelf, 101));
        }
        edges.refused("booleans: by(0, 101)", FULL, -12, y -> y.by(0, 101));
        edges.refused("never by 60 weeks: by(2, 99912)", SOME, -2, y -> y.by(2, 99912));
    }

    private void remindRefused() {
        edges.promise(22, "WHEN TO REMIND: the week (what 0), how much then (1). BAD, -11, -12; NOT.");
        byMinutes("remind", (x, tw) -> x.remind(0, tw, 1));
        for (int what = 0; what <= 1; what++) {
            int w = what;
            for (int shelf : NO_SHELF) {
                edges.refused("remind(" + shelf + ", 101, " + what + ")", SOME, -1, y -> y.remind(shelf, 101, w));
            }
            for (int tw : new int[] {-1, 61, 99, 199, 99961, 100000, MIN, MAX}) {
                edges.refused("remind(2, " + tw + ", " + what + ")", SOME, -1, y -> y.remind(2, tw, w));
                edges.refused("nothing there, and bad: remind(0, " + tw + ", " + what + ")", SOME, -1, y -> y.remind(0, tw, w));
            }
            edges.refused("remind(0, 101, " + what + ")", SOME, -11, y -> y.remind(0, 101, w));
            edges.refused("nothing there, and w 0: remind(0, 100, " + what + ")", SOME, -11, y -> y.remind(0, 100, w));
            for (int shelf : new int[] {1, 3, 4, 5}) {
                edges.refused("remind(" + shelf + ", 101, " + what + ")", SOME, -12, y -> y.remind(shelf, 101, w));
                edges.refused("of another kind, and w 0: remind(" + shelf + ", 100, " + what + ")", SOME, -12,
                    y -> y.remind(shelf, 100, w));
            }
            edges.refused("w 0: remind(2, 99900, " + what + ")", SOME, -2, y -> y.remind(2, 99900, w));
            edges.refused("w 0: remind(1, 0, " + what + ")", FULL, -2, y -> y.remind(1, 0, w));
        }
        for (int what : new int[] {-1, 2, MIN, MAX}) {
            edges.refused("remind(2, 101, " + what + ")", SOME, -1, y -> y.remind(2, 101, what));
            edges.refused("w 0, and bad: remind(2, 100, " + what + ")", SOME, -1, y -> y.remind(2, 100, what));
            edges.refused("nothing there, and bad: remind(0, 101, " + what + ")", SOME, -1, y -> y.remind(0, 101, what));
        }
    }
}
