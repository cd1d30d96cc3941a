import java.util.ArrayList;
import java.util.List;
import java.util.Random;

/** Any call with any arguments in any state: none throws, and what is refused or only asked changes nothing. */
public final class AnyCallTest {
    private static final Due due = new Due();
    private static final Random random = new Random(2);
    private static final int[] EDGES = {Integer.MIN_VALUE, Integer.MIN_VALUE + 1, Integer.MAX_VALUE, Integer.MAX_VALUE - 1, -1000, -3, -2,
        -1, 0, 1, 2, 5, 6, 7, 15, 16, 17, 30, 31, 49, 50, 59, 60, 61, 98, 99, 100, 119, 120, 127, 128, 255, 256, 300, 301, 999, 1000,
        9999, 10000, 30999, 31000, 99960, 99961, 99999, 100000};
    private static final String BYTES = "ptkmrc0123456789()!-+*/%<=>|&;?";

    public static void main(String[] args) {
        for (int run = 0; run < 200; run++) {
            PennyALap x = new PennyALap();
            for (int i = 0; i < 512; i++) {
                boolean looks = run < 40;
                List<Long> before = looks ? snapshot(x) : null;
                int which = random.nextInt(46);
                long answer = call(x, which);
                boolean asks = which >= 15;
                if (looks && (asks || answer < 0 && which != 14)) {
                    due.is("state behind call " + which + " with answer " + answer, snapshot(x).equals(before) ? 1 : 0, 1);
                }
            }
        }
        // calls that came through without a throw are what this test is for
        due.is("all calls ended", 1, 1);
        due.end();
    }

    /** All that can be asked without a change. */
    private static List<Long> snapshot(PennyALap x) {
        List<Long> all = new ArrayList<>();
        for (int number = 0; number < 16; number++) {
            for (int what = 0; what <= 16; what++) {
                all.add((long) x.of(number, what));
            }
        }
        for (int i = 0; i <= 5; i++) {
            all.add((long) x.count(i));
            all.add((long) x.led(i));
            all.add((long) x.lap(i, 7013));
            all.add((long) x.lap(i, 31440));
        }
        for (int i = 0; i < 24; i++) {
            all.add((long) x.trace(i));
        }
        for (int shelf = 0; shelf < 6; shelf++) {
            for (int i = 0; i < 60; i++) {
                all.add(x.element(shelf, i));
            }
            for (int k = 0; k < 8; k++) {
                all.add((long) x.taken(shelf, k));
            }
            all.add((long) x.comes(shelf, 0));
            all.add((long) x.judge(shelf, 0));
            all.add((long) x.shift(shelf, 0, shelf, 0, 0));
        }
        return all;
    }

    /** Mostly small, so that much is not refused. */
    private static int any(int most) {
        int choice = random.nextInt(12);
        if (choice == 0) {
            return EDGES[random.nextInt(EDGES.length)];
        }
        return choice == 1 ? random.nextInt() : random.nextInt(most + 1);
    }

    private static long call(PennyALap x, int which) {
        switch (which) {
            case 0: return x.child(any(30));
            case 1: return x.sponsor(any(5), any(200));
            case 2: return x.sponsors(any(5), any(20), any(16));
            case 3: return x.mend(any(3), any(12), any(30));
            case 4: return x.feed(random.nextInt(30) == 0 ? any(255) : BYTES.charAt(random.nextInt(BYTES.length())));
            case 5: return x.run(any(5));
            case 6: return x.ask(any(5));
            case 7: return random.nextInt(4) == 0 ? x.anew() : random.nextBoolean() ? x.image() : x.back();
            case 8: return x.undo();
            case 9: return x.redo();
            case 10: return x.body(any(7));
            case 11: return x.keep(any(5), any(5) - 1);
            case 12: return x.row(any(5), any(1), any(60));
            case 13: return random.nextBoolean() ? x.put(any(5), any(30), any(300)) : x.shift(any(5), any(9), any(5), any(9), any(9));
            case 14: return random.nextBoolean() ? x.law() : x.act(any(10), any(3), random.nextInt());
            default: return ask(x, which);
        }
    }

    private static long ask(PennyALap x, int which) {
        switch (which) {
            case 15: return x.of(any(5), any(16));
            case 16: return x.lap(any(5), any(99999));
            case 17: return x.laps(any(6) - 1, any(999), any(2));
            case 18: return x.minutes(any(5), any(99));
            case 19: return x.most(any(999), any(2));
            case 20: return x.owes(any(5), any(99), any(1));
            case 21: return x.more(any(5), any(98));
            case 22: return x.done(any(5));
            case 23: return x.lapOrSum(any(5), any(9999));
            case 24: return x.top(any(5));
            case 25: return x.howLong(any(5000));
            case 26: return x.field(any(300), any(6) - 2);
            case 27: return x.comes(any(5), 100 * any(999) + any(60));
            case 28: return x.by(any(5), 100 * any(999) + any(12));
            case 29: return x.remind(any(5), 100 * any(999) + any(60), any(1));
            case 30: return x.judge(any(5), any(999));
            case 31: return x.lapsFor(any(5), any(2000), any(1));
            case 32: return x.minutesFor(any(5));
            case 33: return x.whose(any(5), any(999), any(3000));
            case 34: return x.oak(any(5), any(999), any(6) - 1);
            case 35: return x.drawn(random.nextInt(), 1000 * any(30) + any(999), any(1));
            case 36: return x.led(any(4));
            case 37: return x.trace(any(24));
            case 38: return x.element(any(5), any(60));
            case 39: return x.taken(any(5), any(7));
            case 40: return x.count(any(5));
            default: return x.comes(any(5), any(99999)) + x.by(any(5), any(99999)) + x.drawn(any(9), any(31000), any(2));
        }
    }
}
