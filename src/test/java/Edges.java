import java.util.ArrayList;
import java.util.HashMap;
import java.util.List;
import java.util.Map;
import java.util.regex.Matcher;
import java.util.regex.Pattern;

/**
 * The sentences of the document that name an edge, each with the answers that hold it. Each test names its sentence as
 * the document has it; at the end no word that tells of an edge may stand in the document outside such a sentence.
 */
final class Edges {
    /** Refusals, ranges, and the words by which the document tells of ends. */
    private static final Pattern TELLS_OF_AN_EDGE = Pattern.compile("BAD|FULL|NOT\\b|STATE|VOID|-1[1-4]\\b|\\d+ \\.\\. |at most"
        + "|at least|\\bleast\\b|\\bmost\\b|MOST|\\bfirst\\b|below|beyond|above|nothing|nobody|none|\\bno\\b|No\\b|\\bnot\\b|lacks|\\(cut|"
        + "\\bends\\b|wrap|missing|more than|other|alone|held|empty|over by|an int\\b|lowest|less than|never|\\bcame\\b");

    private final Doc doc;
    private final Map<String, boolean[]> held = new HashMap<>();
    private final Map<String, List<Long>> untouched = new HashMap<>();
    private String sentence = "";
    private int answersOfSentence = 1;
    private int sentences;
    private int looked;
    private int wrong;

    Edges(Doc doc) {
        this.doc = doc;
        for (String name : doc.names()) {
            held.put(name, new boolean[doc.part(name).length()]);
        }
    }

    void promise(int number, String words) {
        begin("Promise " + number, words);
    }

    void term(int number, String words) {
        begin("Terms " + number, words);
    }

    void answers(String words) {
        begin("Answers", words);
    }

    private void begin(String part, String words) {
        finish();
        sentence = part + ", \"" + words + "\"";
        answersOfSentence = 0;
        sentences++;
        int at = doc.part(part).indexOf(words);
        if (at < 0) {
            complain("is not in the document");
        }
        while (at >= 0) {
            java.util.Arrays.fill(held.get(part), at, at + words.length(), true);
            at = doc.part(part).indexOf(words, at + 1);
        }
    }

    private void finish() {
        if (answersOfSentence == 0) {
            complain("has no answer beside it");
        }
    }

    private void complain(String what) {
        wrong++;
        if (wrong <= 60) {
            System.out.println(sentence + ": " + what);
        }
    }

    void is(String call, long got, long want) {
        looked++;
        answersOfSentence++;
        if (got != want) {
            complain(call + " answered " + got + ", due is " + want);
        }
    }

    /** A call that is refused (or that brings nothing): the answer is the one told, and the object is as it was. */
    void refused(String call, Made.State state, long want, Made.Call how) {
        is(call + " [" + state + "]", how.on(state.made()), want);
        for (int view = 0; view < Made.VIEWS; view++) {
            PennyALap x = state.made();
            how.on(x);
            is(call + " [" + state + "]: nothing seen by view " + view + " is new", sees(x, view).equals(asMade(state, view)) ? 1 : 0, 1);
        }
    }

    private static List<Long> sees(PennyALap x, int view) {
        return Made.view(view, x);
    }

    private List<Long> asMade(Made.State state, int view) {
        return untouched.computeIfAbsent(state + " " + view, key -> Made.view(view, state.made()));
    }

    /** Ends the test: each word that tells of an edge must stand in a sentence that was held. */
    void end() {
        finish();
        List<String> open = new ArrayList<>();
        for (String name : doc.names()) {
            Matcher matcher = TELLS_OF_AN_EDGE.matcher(doc.part(name));
            while (matcher.find()) {
                if (!held.get(name)[matcher.start()]) {
                    int from = Math.max(0, matcher.start() - 40);
                    int to = Math.min(doc.part(name).length(), matcher.end() + 40);
                    open.add(name + ": .." + doc.part(name).substring(from, to).replace('\n', ' ') + "..");
                }
            }
        }
        for (String one : open) {
            System.out.println("no test holds " + one);
        }
        System.out.println(sentences + " sentences, " + looked + " answers looked at, " + wrong + " not as due, "
            + open.size() + " words of edges without a test");
        if (wrong != 0 || looked == 0 || !open.isEmpty()) {
            System.exit(1);
        }
    }
}
