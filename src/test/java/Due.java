/** What the tests share: each answer beside the one that is due, and the exit code at the end. */
final class Due {
    private int wrong;
    private long looked;

    void is(String call, long got, long want) {
        looked++;
        if (got != want) {
            wrong++;
            if (wrong <= 40) {
                System.out.println(call + " answered " + got + ", due is " + want);
            }
        }
    }

    boolean isRight() {
        return wrong == 0;
    }

    /** Ends the test: with exit code 1 if an answer was not as due, or if nothing was looked at. */
    void end() {
        System.out.println(looked + " answers looked at, " + wrong + " not as due");
        if (wrong != 0 || looked == 0) {
            System.exit(1);
        }
    }

    /** Feeds a text byte by byte and makes it the law. */
    static int law(PennyALap x, String text) {
        for (int i = 0; i < text.length(); i++) {
            x.feed(text.charAt(i));
        }
        return x.law();
    }

    /** Puts a row on a shelf. */
    static void row(PennyALap x, int shelf, int sort, long... values) {
        x.row(shelf, sort, values.length);
        for (int i = 0; i < values.length; i++) {
            x.put(shelf, i, values[i]);
        }
    }
}
