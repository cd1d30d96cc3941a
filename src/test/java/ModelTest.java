import java.lang.reflect.InvocationTargetException;
import java.lang.reflect.Method;
import java.util.Arrays;
import java.util.HashMap;
import java.util.Map;
import java.util.Random;

/** Random runs of up to 512 calls of all kinds: each answer beside that of Model, which tells the document once more. */
public final class ModelTest {
    /** A call's name, how often it comes, and its arguments: a letter or a number, see argument(). */
    private static final String[] CALLS = {"child 3 30", "sponsor 6 c 200", "sponsors 3 h 9 4", "mend 12 * * *", "of 4 n 16", "feed 3 L",
        "law 1", "lap 3 c 99999", "laps 4 C 999 2", "minutes 3 c 99", "most 3 999 2", "owes 3 s 99 1", "more 3 c 98", "done 2 c",
        "lapOrSum 3 s V", "top 2 s", "howLong 1 V", "field 1 300 D", "comes 3 y W", "by 3 y X", "remind 1 y W 1", "judge 3 h T", "lapsFor 3 c V 1",
        "minutesFor 1 h", "whose 3 c T V", "oak 3 y T C", "drawn 2 I N 1", "run 9 c", "ask 6 s", "anew 1", "led 4 4", "image 1", "back 1", "undo 5",
        "redo 5", "body 2 7", "act 3 b 3 I", "trace 2 11", "keep 2 f B", "row 4 f S R", "put 20 r 9 P", "element 3 r 9", "shift 3 r 5 r 5 4",
        "taken 3 k 7", "count 3 5"};
    private static final int[] MOST = {30, 9, 99, 12, 200, 999, 99, 9999, 9999, 9, 12, 4, 999};
    private static final int[] EDGES = {Integer.MIN_VALUE, Integer.MAX_VALUE, -1000, -2, -1, 0, 1, 6, 8, 16, 50, 60, 61, 99, 100, 120, 255, 256,
        300, 301, 999, 1000, 9999, 10000, 99999, 100000};
    private static final String[] LAWS = {"p+k/2", "p+m/20+r", "k%3=2?p*2;p", "m>50?1;p+t", "c+1", "p*(1+(k>5))-t", "99-k", "k=0?9;1", "!k*9+p",
        "m%7+1", "p-(r<3)*t", "9999*9999*k", "p+", "(p", "p*t/0+(k&1)+(c|r)"};
    private static final Due due = new Due();
    private static final Random random = new Random(11);
    private static final Map<String, Method> real = new HashMap<>();
    private static final Map<String, Method> told = new HashMap<>();

    public static void main(String[] args) throws IllegalAccessException, InvocationTargetException {
        Arrays.stream(PennyALap.class.getDeclaredMethods()).forEach(method -> real.put(nameOf(method), method));
        Arrays.stream(Model.class.getDeclaredMethods()).forEach(method -> told.put(nameOf(method), method));
        StringBuilder often = new StringBuilder();
        for (int i = 0; i < CALLS.length; i++) {
            often.append(Character.toString(i).repeat(Integer.parseInt(CALLS[i].split(" ")[1])));
        }
        for (int run = 0; run < 400 && due.isRight(); run++) {
            run(often, run % 4 == 0 ? 512 : 40 + random.nextInt(200));
        }
        due.end();
    }

    /** Calls of one name and of other counts of arguments are others: the model has some of its own. */
    private static String nameOf(Method method) {
        return method.getName() + " " + method.getParameterCount();
    }

    private static void run(CharSequence often, int calls) throws IllegalAccessException, InvocationTargetException {
        PennyALap x = new PennyALap();
        Model model = new Model();
        StringBuilder log = new StringBuilder();
        for (int i = begin(x, model, log); i < calls && due.isRight(); i++) {
            if (model.count(2) == 0 && random.nextInt(60) == 0 && i + 24 < calls) {
                i += law(x, model, log, LAWS[random.nextInt(LAWS.length)]);
            } else {
                one(x, model, log, CALLS[often.charAt(random.nextInt(often.length()))].split(" "));
            }
        }
    }

    /** Some children and sponsors, so that there is something to ask for. */
    private static int begin(PennyALap x, Model model, StringBuilder log) throws IllegalAccessException, InvocationTargetException {
        int first = random.nextInt(12);
        for (int i = 0; i < first; i++) {
            one(x, model, log, (i < 3 ? CALLS[0] : CALLS[1]).split(" "));
        }
        return first;
    }

    /** Random bytes hardly ever are a law: here is one that is fed whole; how many calls more than one it took. */
    private static int law(PennyALap x, Model model, StringBuilder log, String text) {
        log.append("law ").append(text).append('\n');
        for (char sign : text.toCharArray()) {
            due.is("feed", x.feed(sign), model.feed(sign));
        }
        due.is("law() of " + text, x.law(), model.law());
        return text.length();
    }

    private static void one(PennyALap x, Model model, StringBuilder log, String[] call) throws IllegalAccessException, InvocationTargetException {
        Method method = real.get(call[0] + " " + (call.length - 2));
        Object[] arguments = new Object[call.length - 2];
        int what = random.nextInt(13);
        for (int i = 0; i < arguments.length; i++) {
            long argument = call[2].equals("*") ? mended(model, i, what) : argument(model, call[i + 2]);
            boolean isLong = method.getParameterTypes()[i] == long.class;
            arguments[i] = isLong ? (Object) argument : (Object) (int) argument;
        }
        log.append(call[0]).append(Arrays.toString(arguments)).append('\n');
        long got = ((Number) method.invoke(x, arguments)).longValue();
        long want = ((Number) told.get(call[0] + " " + arguments.length).invoke(model, arguments)).longValue();
        due.is(call[0] + Arrays.toString(arguments), got, want);
        if (!due.isRight()) {
            System.out.println(log);
        }
    }

    private static long mended(Model model, int i, int what) {
        if (random.nextInt(20) == 0) {
            return argument(model, "16");
        }
        return i == 0 ? what < 4 ? below(model.count(0)) : what < 9 ? below(model.count(1)) : 0 : i == 1 ? what
            : random.nextInt(4) == 0 ? below(10) : below(MOST[what] + 1);
    }

    private static int below(int n) {
        return random.nextInt(Math.max(1, n));
    }

    /** Mostly one that is there; some are just beyond, and some are any number at all. */
    private static long argument(Model model, String kind) {
        int choice = random.nextInt(40);
        if (choice == 0 || choice == 1 && kind.equals("I")) {
            return EDGES[random.nextInt(EDGES.length)];
        }
        if (choice == 1) {
            return random.nextInt();
        }
        switch (kind.charAt(0)) {
            case 'c': return below(model.count(0) + (choice == 2 ? 1 : 0));
            case 's': return below(model.count(1) + (choice == 2 ? 1 : 0));
            case 'n': return below(16);
            case 'C': return below(model.count(0) + 1) - 1;
            case 'D': return below(model.count(0) + 2) - 2;
            case 'f': return below(6);
            case 'y': case 'h': case 'r': case 'k': return shelf(model, kind.charAt(0), choice < 36);
            case 'S': return choice < 26 ? below(2) : below(5);
            case 'b': return below(model.count(4));
            case 'B': return below(model.count(4) + 1) - 1;
            case 'V': return paidSomewhere(model);
            case 'T': return below(choice < 20 ? 60 : 1000);
            case 'W': return 100 * below(1000) + below(61);
            case 'X': return 100 * below(1000) + below(13);
            case 'N': return 1000 * below(5) + 1000 + below(1000);
            case 'L': return choice < 20 ? "ptkmrc0123456789()!-+*/%<=>|&;?".charAt(below(31)) : below(256);
            case 'R': return choice < 30 ? below(10) : below(61);
            case 'P': return choice < 20 ? below(7) : choice < 28 ? below(100) : choice < 36 ? paidSomewhere(model) : random.nextLong();
            case 'I': return random.nextInt();
            default: return below(Integer.parseInt(kind) + 1);
        }
    }

    /** Mostly one that holds what is wanted: bytes (y), shorts (h), a row (r), a body (k). */
    private static int shelf(Model model, char kind, boolean fits) {
        int shelf = below(6);
        for (int i = 0; i < 5 && fits; i++) {
            boolean holds = kind == 'y' ? model.comes(shelf, 0) == 0 : kind == 'h' ? model.judge(shelf, 0) > -3
                : kind == 'r' ? model.shift(shelf, 0, shelf, 0, 0) == 0 : model.taken(shelf, 0) >= 0;
            if (holds) {
                return shelf;
            }
            shelf = (shelf + 1) % 6;
        }
        return shelf;
    }

    /** Pence that are likely to be just what some child is paid. */
    private static int paidSomewhere(Model model) {
        return random.nextInt(3) == 0 ? below(3000) : Math.max(0, model.laps(below(model.count(0)), below(300), 2));
    }
}
