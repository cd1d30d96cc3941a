/** Promises 37 to 39: body, act, trace; and count(4), count(5) of promise 46. */
public final class ActsTest {
    private static final Due due = new Due();
    private static int n;

    public static void main(String[] args) {
        body();
        acts();
        traces();
        due.end();
    }

    private static void body() {
        PennyALap x = new PennyALap();
        due.is("body(-1)", x.body(-1), -1);
        due.is("body(8)", x.body(8), -1);
        for (int i = 0; i < 50; i++) {
            due.is("body", x.body(i % 8), i);
        }
        due.is("a fifty-first", x.body(0), -3);
        due.is("a fifty-first that is bad too", x.body(8), -1);
        due.is("count(4)", x.count(4), 50);
        due.is("act(49, 0, 5) of a penny", x.act(49, 0, 5), 5 + 49 + 3);
        due.is("act(50, 0, 5)", x.act(50, 0, 5), 0);
    }

    /** The document's kinds as Java's own classes: its rules of super and of interfaces are the ones that are told. */
    private interface Runs {
        default int runs(int x) {
            return x + n;
        }
    }

    private interface Tells {
        int owes(int x);

        int pays(int x);

        default int tells(int x) {
            return owes(x) - pays(1);
        }
    }

    private static class Lap implements Runs, Tells {
        public int owes(int x) {
            return runs(x) * 2;
        }

        public int pays(int x) {
            return x ^ n;
        }
    }

    private static class Penny extends Lap {
        public int runs(int x) {
            return super.runs(x) + 3;
        }
    }

    private static class Sum extends Lap {
        public int owes(int x) {
            return -super.owes(x);
        }
    }

    private static class Oak extends Sum {
        public int pays(int x) {
            return super.pays(x) * 3;
        }

        public int owes(int x) {
            return super.owes(x + 1);
        }
    }

    private static class Uncle extends Penny {
        public int tells(int x) {
            return super.tells(x) ^ 5;
        }
    }

    private static class Rain extends Oak {
        public int pays(int x) {
            return super.pays(x) - runs(2);
        }

        public int tells(int x) {
            return super.tells(x) + 1;
        }
    }

    private static class Prize extends Lap {
        public int runs(int x) {
            return super.runs(x) * 2;
        }
    }

    private static class Sheet extends Prize {
        public int owes(int x) {
            return super.owes(x) + pays(2);
        }

        public int runs(int x) {
            return super.runs(x) - 1;
        }
    }

    private static void acts() {
        PennyALap x = new PennyALap();
        Lap[] like = {new Lap(), new Penny(), new Sum(), new Oak(), new Uncle(), new Rain(), new Prize(), new Sheet()};
        int[] told = {0, 1, 2, 5, -1, -7, 1000, Integer.MAX_VALUE, Integer.MIN_VALUE, 1 << 30, 715827883};
        for (int i = 0; i < 24; i++) {
            x.body(i % 8);
        }
        for (n = 0; n < 24; n++) {
            Lap one = like[n % 8];
            for (int v : told) {
                due.is("runs of " + n + " with " + v, x.act(n, 0, v), one.runs(v));
                due.is("owes of " + n + " with " + v, x.act(n, 1, v), one.owes(v));
                due.is("pays of " + n + " with " + v, x.act(n, 2, v), one.pays(v));
                due.is("tells of " + n + " with " + v, x.act(n, 3, v), one.tells(v));
            }
        }
    }

    private static void trace(PennyALap x, int body, int act, int... want) {
        x.act(body, act, 3);
        due.is("count(5) of " + body + ", " + act, x.count(5), want.length);
        for (int i = 0; i < want.length; i++) {
            due.is("trace(" + i + ") of " + body + ", " + act, x.trace(i), want[i]);
        }
        due.is("trace beyond the end", x.trace(want.length), -1);
        due.is("trace(-1)", x.trace(-1), -1);
    }

    private static void traces() {
        PennyALap x = new PennyALap();
        due.is("no trace yet", x.trace(0), -1);
        for (int kind = 0; kind < 8; kind++) {
            x.body(kind);
        }
        trace(x, 0, 0, 1);
        trace(x, 0, 1, 10, 1);
        trace(x, 0, 2, 11);
        trace(x, 0, 3, 2, 10, 1, 11);
        trace(x, 1, 1, 10, 20, 1);
        trace(x, 2, 3, 2, 30, 10, 1, 11);
        trace(x, 3, 1, 41, 30, 10, 1);
        trace(x, 3, 2, 40, 11);
        trace(x, 4, 3, 50, 2, 10, 20, 1, 11);
        trace(x, 5, 2, 60, 40, 11, 1);
        trace(x, 5, 3, 61, 2, 41, 30, 10, 1, 60, 40, 11, 1);
        trace(x, 6, 1, 10, 70, 1);
        trace(x, 7, 0, 81, 70, 1);
        trace(x, 7, 3, 2, 80, 10, 81, 70, 1, 11, 11);
        for (int[] none : new int[][] {{8, 0}, {-1, 0}, {0, -1}, {0, 4}, {Integer.MAX_VALUE, Integer.MIN_VALUE}}) {
            x.act(7, 3, 3);
            due.is("no such body or act", x.act(none[0], none[1], 9), 0);
            due.is("no trace then", x.trace(0), -1);
            due.is("count(5) then", x.count(5), 0);
        }
    }
}
