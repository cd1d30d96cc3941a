/** Promises 40 to 46: keep, row, put, element, shift, taken, count. */
public final class ShelvesTest {
    private static final Due due = new Due();
    private static final long NONE = Long.MIN_VALUE;

    public static void main(String[] args) {
        keepAndTaken();
        row();
        putAndElement();
        shift();
        count();
        due.end();
    }

    private static void keepAndTaken() {
        PennyALap x = new PennyALap();
        int[] above = {-1, 0, 0, 2, 1, 3, 0, 6};
        due.is("keep(0, 0), no bodies", x.keep(0, 0), -1);
        for (int kind = 0; kind < 8; kind++) {
            x.body(kind);
        }
        due.is("keep(-1, 0)", x.keep(-1, 0), -1);
        due.is("keep(6, 0)", x.keep(6, 0), -1);
        due.is("keep(0, 8)", x.keep(0, 8), -1);
        due.is("keep(0, -2)", x.keep(0, -2), -1);
        due.is("taken, nothing there", x.taken(0, 0), -11);
        due.is("keep(0, -1)", x.keep(0, -1), 1);
        due.is("taken, nothing there still", x.taken(0, 0), -11);
        for (int kind = 0; kind < 8; kind++) {
            due.is("keep", x.keep(5, kind), 1);
            for (int k = 0; k < 8; k++) {
                boolean under = false;
                for (int up = kind; up >= 0; up = above[up]) {
                    under |= up == k;
                }
                due.is("kind " + kind + " taken for " + k, x.taken(5, k), under ? kind : -12);
            }
        }
        due.is("taken(5, 8)", x.taken(5, 8), -1);
        due.is("taken(5, -1)", x.taken(5, -1), -1);
        due.is("taken(6, 0)", x.taken(6, 0), -1);
        due.is("taken(-1, 0)", x.taken(-1, 0), -1);
        x.row(5, 0, 1);
        due.is("a row taken for a body", x.taken(5, 0), -12);
        x.keep(5, -1);
        due.is("nothing again", x.taken(5, 0), -11);
        due.is("nothing again, put", x.put(5, 0, 1), -11);
        due.is("bad goes ahead of nothing there", x.taken(4, 8), -1);
    }

    private static void row() {
        PennyALap x = new PennyALap();
        due.is("row(-1, 0, 1)", x.row(-1, 0, 1), -1);
        due.is("row(6, 0, 1)", x.row(6, 0, 1), -1);
        due.is("row(0, -1, 1)", x.row(0, -1, 1), -1);
        due.is("row(0, 5, 1)", x.row(0, 5, 1), -1);
        due.is("row(0, 0, 61)", x.row(0, 0, 61), -1);
        due.is("row(0, 0, -1)", x.row(0, 0, -1), -14);
        due.is("row(0, 0, MIN)", x.row(0, 0, Integer.MIN_VALUE), -14);
        due.is("row(0, 5, -1)", x.row(0, 5, -1), -1);
        due.is("row(6, 0, -1)", x.row(6, 0, -1), -1);
        due.is("nothing came", x.put(0, 0, 1), -11);
        for (int sort = 0; sort <= 4; sort++) {
            due.is("row", x.row(sort, sort, 60), 1);
            due.is("first", x.element(sort, 0), 0);
            due.is("last", x.element(sort, 59), 0);
            due.is("beyond", x.element(sort, 60), NONE);
            due.is("put last", x.put(sort, 59, -1), 1);
        }
        due.is("row(4, 0, 60)", x.row(4, 0, 60), 1);
        due.is("a new row is 0 again", x.element(4, 59), 0);
        due.is("a refused row leaves the old one", x.row(3, 3, -1), -14);
        due.is("its last", x.element(3, 59), -1);
        due.is("row(3, 3, 0)", x.row(3, 3, 0), 1);
        due.is("of no elements", x.element(3, 0), NONE);
        due.is("of no elements, put", x.put(3, 0, 1), -13);
    }

    private static void putAndElement() {
        PennyALap x = new PennyALap();
        long[] told = {0, 1, -1, 127, 128, 255, 256, 300, -129, 32767, 32768, 65536, Integer.MAX_VALUE, 1L << 31, 1L << 32,
            Long.MAX_VALUE, Long.MIN_VALUE, -(1L << 40) + 77};
        for (int sort = 0; sort <= 4; sort++) {
            x.row(sort, sort, 3);
        }
        for (long v : told) {
            for (int shelf = 0; shelf <= 4; shelf++) {
                due.is("put(" + shelf + ", 1, " + v + ")", x.put(shelf, 1, v), 1);
            }
            due.is("byte of " + v, x.element(0, 1), (byte) v);
            due.is("short of " + v, x.element(1, 1), (short) v);
            due.is("int of " + v, x.element(2, 1), (int) v);
            due.is("long of " + v, x.element(3, 1), v);
            due.is("boolean of " + v, x.element(4, 1), v != 0 ? 1 : 0);
        }
        due.is("its neighbours", x.element(3, 0) + x.element(3, 2), 0);
        x.body(0);
        x.keep(0, 0);
        int[][] bad = {{-1, 0, -1}, {6, 0, -1}, {5, 0, -11}, {5, -1, -11}, {0, 0, -12}, {0, -1, -12}, {1, -1, -13},
            {1, 3, -13}, {1, Integer.MAX_VALUE, -13}, {1, Integer.MIN_VALUE, -13}};
        for (int[] one : bad) {
            due.is("put(" + one[0] + ", " + one[1] + ")", x.put(one[0], one[1], 1), one[2]);
            due.is("element(" + one[0] + ", " + one[1] + ")", x.element(one[0], one[1]), NONE);
        }
    }

    private static void isRow(PennyALap x, int shelf, long... want) {
        for (int i = 0; i < want.length; i++) {
            due.is("element(" + shelf + ", " + i + ")", x.element(shelf, i), want[i]);
        }
        due.is("its end", x.element(shelf, want.length), NONE);
    }

    private static void shift() {
        PennyALap x = new PennyALap();
        Due.row(x, 0, 2, 1, 2, 3, 4, 5);
        Due.row(x, 1, 2, 10, 20, 30);
        due.is("to another", x.shift(0, 1, 1, 0, 2), 2);
        isRow(x, 1, 2, 3, 30);
        isRow(x, 0, 1, 2, 3, 4, 5);
        due.is("upward in the same", x.shift(0, 0, 0, 1, 4), 4);
        isRow(x, 0, 1, 1, 2, 3, 4);
        due.is("downward in the same", x.shift(0, 1, 0, 0, 4), 4);
        isRow(x, 0, 1, 2, 3, 4, 4);
        due.is("none", x.shift(0, 5, 1, 3, 0), 0);
        due.is("all", x.shift(1, 0, 0, 2, 3), 3);
        isRow(x, 0, 1, 2, 2, 3, 30);
        x.body(0);
        x.keep(2, 0);
        x.row(3, 3, 5);
        int[][] bad = {{-1, 0, 0, 0, 1, -1}, {0, 0, 6, 0, 1, -1}, {5, 0, -1, 0, 1, -1}, {5, 0, 0, 0, 1, -11}, {0, 0, 5, 0, 1, -11},
            {2, 0, 5, 0, 1, -11}, {5, 0, 5, 0, 0, -11}, {2, 0, 0, 0, 1, -12}, {0, 0, 2, 0, 1, -12}, {2, 0, 2, 0, 0, -12},
            {0, 0, 3, 0, 1, -12}, {0, 0, 3, 0, -1, -12}, {0, 0, 1, 0, -1, -13}, {0, -1, 1, 0, 1, -13}, {0, 0, 1, -1, 1, -13},
            {0, 5, 1, 0, 1, -13}, {0, 0, 1, 3, 1, -13}, {0, 0, 1, 0, 4, -13}, {0, 6, 1, 0, 0, -13}, {0, 0, 1, 4, 0, -13},
            {0, 1, 1, 1, Integer.MAX_VALUE, -13}, {0, Integer.MAX_VALUE, 1, 0, 1, -13}, {0, 0, 1, Integer.MAX_VALUE, 2, -13},
            {0, Integer.MIN_VALUE, 1, 0, Integer.MIN_VALUE, -13}};
        for (int[] b : bad) {
            due.is("shift " + java.util.Arrays.toString(b), x.shift(b[0], b[1], b[2], b[3], b[4]), b[5]);
        }
        isRow(x, 0, 1, 2, 2, 3, 30);
        isRow(x, 1, 2, 3, 30);
    }

    private static void count() {
        PennyALap x = new PennyALap();
        x.child(1);
        x.child(1);
        x.sponsor(0, 1);
        x.sponsor(0, 1);
        x.sponsor(0, 1);
        x.feed('p');
        x.feed('+');
        x.feed('p');
        x.feed('+');
        for (int i = 1; i <= 5; i++) {
            x.mend(0, 12, i);
        }
        for (int i = 0; i < 6; i++) {
            x.body(0);
        }
        x.act(3, 3, 0);
        int[] want = {2, 3, 4, 5, 6, 4};
        for (int what = 0; what <= 5; what++) {
            due.is("count(" + what + ")", x.count(what), want[what]);
        }
        due.is("count(-1)", x.count(-1), -1);
        due.is("count(6)", x.count(6), -1);
        x.undo();
        due.is("count(3) behind undo()", x.count(3), 4);
        due.is("BAD", PennyALap.BAD, -1);
        due.is("NOT", PennyALap.NOT, -2);
        due.is("FULL", PennyALap.FULL, -3);
        due.is("STATE", PennyALap.STATE, -5);
        due.is("VOID", PennyALap.VOID, -2000000000);
    }
}
