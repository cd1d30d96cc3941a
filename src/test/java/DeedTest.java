import java.util.Random;

/** Promises 29 to 36: run, ask, anew, led, image, back, undo, redo. */
public final class DeedTest {
    private static final Due due = new Due();

    public static void main(String[] args) {
        run();
        ask();
        anewAndLed();
        imageAndBack();
        ledBesideAnswers();
        undoAndRedo();
        manyChanges();
        due.end();
    }

    private static void run() {
        PennyALap x = new PennyALap();
        due.is("run(0) of nobody", x.run(0), -1);
        x.child(3);
        x.child(4);
        x.mend(0, 1, 4);
        due.is("run(-1)", x.run(-1), -1);
        due.is("run(2)", x.run(2), -1);
        due.is("first", x.run(0), 3);
        due.is("second, tired", x.run(0), 7);
        due.is("third", x.run(0), 12);
        due.is("the other", x.run(1), 4);
        due.is("of(0, 15)", x.of(0, 15), 3);
        due.is("of(0, 16)", x.of(0, 16), 12);
        x.mend(0, 2, 3);
        due.is("stops", x.run(0), -5);
        due.is("nothing changed", x.of(0, 15), 3);
        x.mend(0, 2, 2);
        due.is("beyond stops", x.run(0), -5);
        x.mend(0, 2, 4);
        x.mend(0, 3, 12);
        due.is("cuts do not matter in deed", x.run(0), 18);
        Due.law(x, "m");
        due.is("by the minutes ahead", x.run(1), 8);
        due.is("by the minutes ahead again", x.run(1), 16);
        Due.law(x, "k");
        due.is("by the laps ahead", x.run(1), 19);
        Due.law(x, "99");
        x.anew();
        for (int i = 1; i <= 99; i++) {
            due.is("99 each", x.run(1), 99 * i);
        }
        due.is("99 laps at most", x.run(1), -5);
    }

    private static void ask() {
        PennyALap x = new PennyALap();
        due.is("ask(0) of nobody", x.ask(0), -1);
        x.child(3);
        x.child(3);
        x.sponsor(1, 40);
        due.is("ask(1)", x.ask(1), -1);
        due.is("ask(-1)", x.ask(-1), -1);
        due.is("no laps yet", x.ask(0), 0);
        x.run(0);
        due.is("another child's lap", x.ask(0), 0);
        x.run(1);
        x.run(1);
        due.is("two laps", x.ask(0), 80);
        due.is("asked again", x.ask(0), 0);
        x.run(1);
        due.is("one more", x.ask(0), 40);
        due.is("of(0, 14)", x.of(0, 14), 120);
        due.is("not surprised", x.led(4), 0);
        x.mend(0, 8, 130);
        due.is("still not", x.ask(0), 0);
        due.is("led(4)", x.led(4), 0);
        x.run(1);
        due.is("what the purse has", x.ask(0), 10);
        due.is("surprised", x.led(4), 1);
        due.is("asked again", x.ask(0), 0);
        due.is("surprised again", x.led(4), 2);
        x.mend(0, 8, 5);
        due.is("nothing is given back", x.ask(0), 0);
        due.is("of(0, 14)", x.of(0, 14), 130);
        due.is("surprised thrice", x.led(4), 3);
        x.mend(0, 8, 9999);
        x.mend(0, 4, 50);
        due.is("more a lap", x.ask(0), 70);
        due.is("led(1)", x.led(1), 200);
    }

    private static void anewAndLed() {
        PennyALap x = new PennyALap();
        x.child(3);
        x.child(5);
        x.sponsor(0, 10);
        x.sponsor(1, 20);
        x.mend(1, 8, 15);
        x.run(0);
        x.run(0);
        x.run(1);
        x.ask(0);
        x.ask(1);
        due.is("led(0)", x.led(0), 3);
        due.is("led(1)", x.led(1), 35);
        due.is("led(2)", x.led(2), 0);
        due.is("led(3)", x.led(3), 11);
        due.is("led(4)", x.led(4), 1);
        due.is("led(-1)", x.led(-1), -1);
        due.is("led(5)", x.led(5), -1);
        due.is("anew()", x.anew(), 3);
        for (int n = 0; n < 2; n++) {
            due.is("paid anew", x.of(n, 14), 0);
            due.is("laps anew", x.of(n, 15), 0);
            due.is("minutes anew", x.of(n, 16), 0);
        }
        due.is("led(0): laps stay led", x.led(0), 3);
        due.is("led(1): pence stay led", x.led(1), 35);
        due.is("led(2)", x.led(2), 1);
        due.is("led(3): minutes stay led", x.led(3), 11);
        due.is("led(4): surprises stay", x.led(4), 1);
        due.is("run anew", x.run(0), 3);
        due.is("ask anew", x.ask(0), 10);
        due.is("led(0) goes on", x.led(0), 4);
        due.is("led(1) goes on", x.led(1), 45);
        due.is("led(3) goes on", x.led(3), 14);
        due.is("anew() again: of the field there is", x.anew(), 1);
        due.is("anew() of a field without laps", x.anew(), 0);
        due.is("led(0)", x.led(0), 4);
        due.is("led(2)", x.led(2), 3);
        due.is("numbers stay", x.of(1, 8), 15);
        due.is("changes stay", x.count(3), 1);
    }

    private static void imageAndBack() {
        PennyALap x = new PennyALap();
        due.is("back(), no image", x.back(), -5);
        x.child(3);
        x.sponsor(0, 10);
        x.mend(0, 8, 15);
        x.run(0);
        x.run(0);
        x.ask(0);
        due.is("image()", x.image(), 2);
        x.child(4);
        x.sponsor(1, 5);
        x.run(1);
        x.ask(1);
        x.ask(0);
        x.run(0);
        x.mend(0, 0, 7);
        x.anew();
        x.run(1);
        x.ask(1);
        due.is("back()", x.back(), 2);
        due.is("laps", x.of(0, 15), 2);
        due.is("minutes", x.of(0, 16), 6);
        due.is("paid", x.of(0, 14), 15);
        due.is("one that came since: laps", x.of(1, 15), 0);
        due.is("one that came since: minutes", x.of(1, 16), 0);
        due.is("one that came since: paid", x.of(1, 14), 0);
        due.is("it is still there", x.count(0), 2);
        due.is("numbers are not in it", x.of(0, 0), 7);
        due.is("led(0)", x.led(0), 2);
        due.is("led(1)", x.led(1), 15);
        due.is("led(2)", x.led(2), 0);
        due.is("led(3)", x.led(3), 6);
        due.is("led(4)", x.led(4), 1);
        x.run(0);
        due.is("back() once more", x.back(), 2);
        x.run(1);
        due.is("another image()", x.image(), 3);
        x.run(1);
        due.is("back() to it", x.back(), 3);
        due.is("minutes of it", x.led(3), 10);
        imageBehindNewField();
    }

    /** The rows of the field and what is led are kept and laid back each for itself. */
    private static void imageBehindNewField() {
        PennyALap x = new PennyALap();
        x.child(3);
        x.sponsor(0, 10);
        x.run(0);
        x.run(0);
        x.ask(0);
        x.anew();
        due.is("image() behind a new field", x.image(), 2);
        x.run(0);
        x.ask(0);
        x.anew();
        x.run(0);
        due.is("back() behind another", x.back(), 2);
        due.is("laps of the field", x.of(0, 15), 0);
        due.is("minutes of the field", x.of(0, 16), 0);
        due.is("paid in the field", x.of(0, 14), 0);
        due.is("led(0)", x.led(0), 2);
        due.is("led(1)", x.led(1), 20);
        due.is("led(2)", x.led(2), 1);
        due.is("led(3)", x.led(3), 6);
        x.run(0);
        due.is("image() with a lap more", x.image(), 3);
        due.is("anew() of that lap", x.anew(), 1);
        due.is("back() ahead of it", x.back(), 3);
        due.is("the lap of the field", x.of(0, 15), 1);
        due.is("anew() of that lap again", x.anew(), 1);
    }

    /** Random deeds: what is led is the sum of what the calls answered, as far as no image took it back. */
    private static void ledBesideAnswers() {
        Random random = new Random(5);
        for (int round = 0; round < 120; round++) {
            PennyALap x = new PennyALap();
            for (int n = 0; n < 3; n++) {
                x.child(1 + random.nextInt(30));
                x.mend(n, 1, random.nextInt(10));
            }
            for (int s = 0; s < 5; s++) {
                x.sponsor(random.nextInt(3), random.nextInt(201));
                x.mend(s, 8, random.nextInt(900));
            }
            int[] led = new int[5];
            int[] image = null;
            for (int i = 0; i < 40; i++) {
                int deed = random.nextInt(24);
                if (deed < 12) {
                    int child = random.nextInt(3);
                    int before = x.of(child, 16);
                    led[3] += x.run(child) - before;
                    led[0]++;
                } else if (deed < 20) {
                    int sponsor = random.nextInt(5);
                    int laps = x.of(x.of(sponsor, 13), 15);
                    led[4] += x.owes(sponsor, laps, 0) > x.of(sponsor, 8) ? 1 : 0;
                    led[1] += x.ask(sponsor);
                } else if (deed == 20 || deed == 21) {
                    int laps = x.of(0, 15) + x.of(1, 15) + x.of(2, 15);
                    due.is("anew(), random", x.anew(), laps);
                    led[2]++;
                } else if (deed == 22) {
                    due.is("image(), random", x.image(), led[0]);
                    image = led.clone();
                } else {
                    led = image == null ? led : image.clone();
                    due.is("back(), random", x.back(), image == null ? -5 : led[0]);
                }
                for (int what = 0; what < 5; what++) {
                    due.is("led(" + what + "), random", x.led(what), led[what]);
                }
            }
        }
    }

    private static void undoAndRedo() {
        PennyALap x = new PennyALap();
        due.is("undo(), none", x.undo(), -5);
        due.is("redo(), none", x.redo(), -5);
        x.child(3);
        x.sponsor(0, 10);
        x.mend(0, 0, 4);
        x.mend(0, 4, 20);
        x.mend(0, 9, 5);
        due.is("count(3)", x.count(3), 3);
        x.mend(0, 9, 5);
        due.is("the same number is none", x.count(3), 3);
        due.is("redo(), none yet", x.redo(), -5);
        due.is("undo()", x.undo(), 2);
        due.is("rain", x.of(0, 9), 0);
        due.is("undo()", x.undo(), 1);
        due.is("per", x.of(0, 4), 10);
        due.is("pace is still mended", x.of(0, 0), 4);
        due.is("undo()", x.undo(), 0);
        due.is("pace", x.of(0, 0), 3);
        due.is("undo(), none left", x.undo(), -5);
        due.is("redo()", x.redo(), 2);
        due.is("pace again", x.of(0, 0), 4);
        due.is("count(3)", x.count(3), 1);
        x.mend(0, 4, 10);
        x.run(0);
        x.ask(0);
        x.anew();
        x.child(9);
        x.sponsor(1, 9);
        Due.law(x, "p");
        due.is("those are no changes: redo()", x.redo(), 1);
        due.is("per again", x.of(0, 4), 20);
        x.mend(0, 7, 11);
        due.is("another came behind: redo()", x.redo(), -5);
        due.is("count(3)", x.count(3), 3);
        due.is("undo()", x.undo(), 2);
        due.is("top", x.of(0, 7), 0);
        due.is("rain as it was", x.of(0, 9), 0);
        due.is("redo() the other", x.redo(), 0);
        due.is("top again", x.of(0, 7), 11);
        x.mend(0, 7, 10000);
        due.is("a bad one is none", x.count(3), 3);
        for (int what = 0; what <= 12; what++) {
            int was = x.of(0, what);
            x.mend(0, what, was == 1 ? 2 : 1);
            x.undo();
            due.is("undone " + what, x.of(0, what), was);
            x.redo();
            due.is("done again " + what, x.of(0, what), was == 1 ? 2 : 1);
        }
    }

    private static void manyChanges() {
        PennyALap x = new PennyALap();
        for (int i = 1; i <= 45; i++) {
            x.mend(0, 12, i);
        }
        due.is("40 at most", x.count(3), 40);
        for (int i = 39; i >= 0; i--) {
            due.is("undo()", x.undo(), i);
            due.is("prize", x.of(0, 12), i + 5);
        }
        due.is("undo(), none", x.undo(), -5);
        due.is("prize", x.of(0, 12), 5);
        for (int i = 39; i >= 0; i--) {
            due.is("redo()", x.redo(), i);
        }
        due.is("redo(), none", x.redo(), -5);
        due.is("prize", x.of(0, 12), 45);
        x.undo();
        x.mend(0, 12, 99);
        due.is("count(3)", x.count(3), 40);
        due.is("undo()", x.undo(), 39);
        due.is("prize", x.of(0, 12), 44);
        changesOfMany();
    }

    /** 50 changes of four numbers in turn: the oldest ten are forgotten. */
    private static void changesOfMany() {
        PennyALap x = new PennyALap();
        x.child(1);
        x.sponsor(0, 0);
        int[] whats = {12, 5, 7, 8};
        for (int i = 0; i < 50; i++) {
            x.mend(0, whats[i % 4], 100 + i);
        }
        for (int i = 49; i >= 10; i--) {
            due.is("undo()", x.undo(), i - 10);
            due.is("undone " + i, x.of(0, whats[i % 4]), 100 + i - 4);
        }
        due.is("undo(), none", x.undo(), -5);
        for (int i = 10; i < 50; i++) {
            due.is("redo()", x.redo(), 49 - i);
            due.is("done again " + i, x.of(0, whats[i % 4]), 100 + i);
        }
    }
}
