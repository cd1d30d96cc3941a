import java.util.ArrayList;
import java.util.List;

/**
 * Objects in which much has happened, and all that can be seen of one. What is seen is parted into views, each for an
 * object of its own, as some of them change it and no object is to be used for more than 512 calls.
 */
final class Made {
    static final int VIEWS = 9;

    private Made() {
    }

    /** What a test does with an object. */
    interface Call {
        long on(PennyALap x);
    }

    /** How far an object has come. */
    enum State {
        FRESH, SOME, FULL;

        PennyALap made() {
            return this == SOME ? some() : this == FULL ? full() : new PennyALap();
        }
    }

    /** Something of everything, and nothing of it full: 3 children, 4 sponsors, 2 changes undone, shelf 0 holds nothing. */
    private static PennyALap some() {
        PennyALap x = new PennyALap();
        x.child(3);
        x.child(5);
        x.child(2);
        x.sponsor(0, 10);
        x.sponsor(1, 20);
        x.sponsor(1, 0);
        x.sponsor(2, 7);
        Due.law(x, "p+k/3+r");
        int[][] mends = {{0, 1, 2}, {1, 2, 4}, {2, 3, 6}, {1, 8, 50}, {2, 5, 100}, {2, 6, 3}, {3, 7, 30}, {0, 9, 1}, {0, 10, 0},
            {0, 12, 30}, {3, 7, 40}, {0, 10, 5}};
        for (int[] mend : mends) {
            x.mend(mend[0], mend[1], mend[2]);
        }
        x.undo();
        x.undo();
        deeds(x);
        for (char sign : "k+4".toCharArray()) {
            x.feed(sign);
        }
        for (int kind : new int[] {7, 3, 5, 4, 0}) {
            x.body(kind);
        }
        x.act(2, 3, 9);
        x.keep(1, 2);
        Due.row(x, 2, 0, 1, -1, 70);
        Due.row(x, 3, 1, 0, 50, 1, 20, 5);
        Due.row(x, 4, 2, 7, 8);
        Due.row(x, 5, 3, 9, 1L << 40);
        return x;
    }

    /** A field that was, one that is, an image of it, and a lap and pence behind the image. */
    private static void deeds(PennyALap x) {
        x.run(2);
        x.ask(3);
        x.anew();
        x.run(0);
        x.run(0);
        x.run(1);
        x.run(1);
        x.run(1);
        x.ask(0);
        x.ask(1);
        x.image();
        x.run(2);
        x.ask(3);
    }

    /** Children, sponsors, tape, changes, bodies and four rows are full; child 0 cannot run, shelf 5 holds a body. */
    private static PennyALap full() {
        PennyALap x = new PennyALap();
        for (int pace = 1; pace <= 6; pace++) {
            x.child(pace);
        }
        x.row(0, 1, 48);
        x.sponsors(0, 0, 16);
        x.mend(0, 2, 1);
        x.run(0);
        for (int i = 1; i <= 41; i++) {
            x.mend(i % 3 == 0 ? 0 : i % 3 == 1 ? 5 : 15, i % 3 == 0 ? 12 : i % 3 == 1 ? 1 : 8, i % 3 == 1 ? i % 9 : i);
        }
        String text = "10+k" + "-0+0".repeat(29);
        for (char sign : text.toCharArray()) {
            x.feed(sign);
        }
        for (int i = 0; i < 50; i++) {
            x.body(i % 8);
        }
        x.act(47, 3, -1);
        x.row(0, 4, 60);
        x.row(1, 0, 60);
        x.row(2, 1, 60);
        x.row(3, 3, 60);
        x.row(4, 2, 0);
        x.keep(5, 49);
        for (int shelf = 0; shelf < 4; shelf++) {
            x.put(shelf, 0, 3);
            x.put(shelf, 59, 5);
        }
        return x;
    }

    static List<Long> view(int view, PennyALap x) {
        List<Long> seen = new ArrayList<>();
        switch (view) {
            case 0 -> numbers(x, seen);
            case 1 -> elements(x, 0, seen);
            case 2 -> elements(x, 3, seen);
            case 3 -> shelves(x, seen);
            case 4 -> bodies(x, seen);
            case 5 -> lawAndTape(x, seen);
            case 6 -> undone(x, seen);
            case 7 -> doneAgain(x, seen);
            default -> image(x, seen);
        }
        return seen;
    }

    private static void numbers(PennyALap x, List<Long> seen) {
        for (int number = 0; number < 16; number++) {
            for (int what = 0; what <= 16; what++) {
                boolean ofChild = what <= 3 || what >= 15;
                boolean ofNone = what >= 9 && what <= 12;
                if (number < (ofChild ? 6 : ofNone ? 1 : 16)) {
                    seen.add((long) x.of(number, what));
                }
            }
        }
        for (int what = 0; what <= 5; what++) {
            seen.add((long) x.count(what));
            seen.add((long) x.led(what));
        }
    }

    private static void elements(PennyALap x, int from, List<Long> seen) {
        for (int shelf = from; shelf < from + 3; shelf++) {
            for (int i = 0; i < 60; i++) {
                seen.add(x.element(shelf, i));
            }
        }
    }

    /** What each shelf holds, and which hold rows of like sorts, ahead of an element put in: it tells the sort. */
    private static void shelves(PennyALap x, List<Long> seen) {
        for (int i = 0; i < 24; i++) {
            seen.add((long) x.trace(i));
        }
        for (int shelf = 0; shelf < 6; shelf++) {
            for (int k = 0; k < 8; k++) {
                seen.add((long) x.taken(shelf, k));
            }
            for (int other = 0; other < 6; other++) {
                seen.add((long) x.shift(shelf, 0, other, 0, 0));
            }
        }
        for (int shelf = 0; shelf < 6; shelf++) {
            seen.add((long) x.put(shelf, 0, (1L << 40) + (1 << 20) + (1 << 10) + 2));
            seen.add(x.element(shelf, 0));
        }
    }

    private static void bodies(PennyALap x, List<Long> seen) {
        for (int body = 0; body < 50; body++) {
            seen.add((long) x.act(body, 0, 5));
            seen.add((long) x.act(body, 3, 5));
        }
    }

    private static void lawAndTape(PennyALap x, List<Long> seen) {
        for (int time = 0; time < 2; time++) {
            for (int child = 0; child < 6; child++) {
                seen.add((long) x.lap(child, 0));
                seen.add((long) x.lap(child, 20100));
                seen.add((long) x.lap(child, 77777));
            }
            seen.add((long) x.law());
        }
    }

    private static void undone(PennyALap x, List<Long> seen) {
        for (int i = 0; i < 41; i++) {
            seen.add((long) x.undo());
            seen.add((long) x.of(0, 12));
            seen.add((long) x.of(15, 8));
        }
        for (int child = 0; child < 6; child++) {
            for (int what = 0; what <= 3; what++) {
                seen.add((long) x.of(child, what));
            }
        }
    }

    private static void doneAgain(PennyALap x, List<Long> seen) {
        for (int i = 0; i < 3; i++) {
            seen.add((long) x.redo());
        }
        numbers(x, seen);
    }

    private static void image(PennyALap x, List<Long> seen) {
        seen.add((long) x.back());
        for (int number = 0; number < 16; number++) {
            seen.add((long) x.of(number, 14));
            seen.add((long) x.of(number, 15));
            seen.add((long) x.of(number, 16));
        }
        for (int what = 0; what <= 4; what++) {
            seen.add((long) x.led(what));
        }
    }
}
