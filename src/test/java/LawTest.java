import java.util.ArrayDeque;
import java.util.Deque;
import java.util.Random;

/** Promises 7 to 9: feed, law, lap. */
public final class LawTest {
    private static final Due due = new Due();

    public static void main(String[] args) {
        feed();
        faults();
        answers();
        whatStays();
        lap();
        randomLaws();
        randomFaults();
        due.end();
    }

    private static void feed() {
        PennyALap x = new PennyALap();
        due.is("feed(-1)", x.feed(-1), -1);
        due.is("feed(256)", x.feed(256), -1);
        for (int i = 1; i <= 120; i++) {
            due.is("feed", x.feed(i == 1 ? 0 : i == 2 ? 255 : 'p'), i);
        }
        due.is("feed, full", x.feed('p'), -3);
        due.is("feed, full and bad", x.feed(256), -1);
        due.is("count(2)", x.count(2), 120);
        due.is("law()", x.law(), -100);
        due.is("count(2) behind law()", x.count(2), 0);
        due.is("feed anew", x.feed('p'), 1);
        due.is("law()", x.law(), 1);
        due.is("count(2) behind a law", x.count(2), 0);
    }

    private static void fault(String text, int place) {
        due.is("law() of " + text, Due.law(new PennyALap(), text), place < 0 ? 1 : -100 - place);
    }

    private static void faults() {
        for (String right : new String[] {"p", "0", "0000", "9999", "1?2", "1?2;3", "1;2;3?4", "((((((1))))))", "!!!!!!1",
            "------1", "!-(-!(1))", "!-!-!-1", "1--1", "1-!-p", "1<2|2<3", "1<2&2>3", "(1<2)<3", "p*t/k%m+r-c",
            "(((((1)))))+((((((1))))))", "!!!!!!1+!!!!!!1", "(!(!(!1+1)))"}) {
            fault(right, -1);
        }
        fault("", 0);
        fault(" ", 0);
        fault("x", 0);
        fault(";", 0);
        fault("?", 0);
        fault(")", 0);
        fault("*1", 0);
        fault("+1", 0);
        fault("p ", 1);
        fault("pt", 1);
        fault("1p", 1);
        fault("p1", 1);
        fault("1)", 1);
        fault("1!", 1);
        fault("1(", 1);
        fault("p+", 2);
        fault("p;", 2);
        fault("p?", 2);
        fault("(p", 2);
        fault("()", 1);
        fault("!", 1);
        fault("-", 1);
        fault("12345", 4);
        fault("00000", 4);
        fault("1<2<3", 3);
        fault("1=2>3", 3);
        fault("1<2+3=4", 5);
        fault("1<<2", 2);
        fault("1?2?3", 3);
        fault("(1?2)", 2);
        fault("(1;2)", 2);
        fault("1;;2", 2);
        fault("(((((((1)))))))", 6);
        fault("!!!!!!!1", 6);
        fault("-------1", 6);
        fault("!-(!-(1))", -1);
        fault("!-(!-(!1))", 6);
        fault("!-(!-((1)))", 6);
        fault("((((((-1))))))", 6);
        fault("((((((1-1))))))", -1);
        fault("((((((1--1))))))", 8);
        fault("((((((1)))))", 12);
        fault("((((((1)))))))", 13);
        fault("\u00ff", 0);
        fault("\u0000", 0);
        fault("P", 0);
        String all = "1+".repeat(60);
        fault(all, 120);
        fault(all.substring(0, 119), -1);
        fault("1;".repeat(59) + "12", -1);
        fault("1;".repeat(60), 120);
    }

    private static void answer(String text, int want) {
        PennyALap x = new PennyALap();
        x.child(20);
        x.child(3);
        x.mend(1, 1, 2);
        x.mend(0, 9, 7);
        for (int i = 0; i < 3; i++) {
            due.is("law() of " + text, Due.law(x, text), 1);
            due.is("lap by " + text, x.lap(1, 5040), want);
        }
    }

    /** p 3, t 2, k 5, m 40, r 7, c 1. */
    private static void answers() {
        answer("p", 3);
        answer("t", 2);
        answer("k", 5);
        answer("m", 40);
        answer("r", 7);
        answer("c", 1);
        answer("c*0+98", 98);
        answer("0", 1);
        answer("-5", 1);
        answer("99", 99);
        answer("100", 99);
        answer("9999*9999", 99);
        answer("0012", 12);
        answer("7-2-1", 4);
        answer("20/3/2", 3);
        answer("20-3*4", 8);
        answer("(20-3)*4", 68);
        answer("47%10*2", 14);
        answer("10-7/2", 7);
        answer("10+-7/2", 7);
        answer("10+-7%4", 7);
        answer("10+7%-4", 13);
        answer("7/0+5", 5);
        answer("7%0+5", 5);
        answer("-1*2+10", 8);
        answer("!1*5+3", 3);
        answer("!0*5+3", 8);
        answer("!!7+3", 4);
        answer("--7", 7);
        answer("5--7", 12);
        answer("(3|0)*9", 9);
        answer("(0|0)*9+2", 2);
        answer("(2&4)*9", 9);
        answer("(2&0)*9+2", 2);
        answer("(0|2&0)*9+2", 2);
        answer("(2|2&0)*9+2", 11);
        answer("(1<2)*8+(2<1)*4+(2<2)*2+2", 10);
        answer("(1>2)*8+(2>1)*4+(2>2)*2+2", 6);
        answer("(1=2)*8+(2=1)*4+(2=2)*2+2", 4);
        answer("1+1<2+1|0", 1);
        answer("(1+1<2+1)*7", 7);
        // 120 bytes, each with a step of its own
        answer("-1" + "+1".repeat(59), 58);
        answer("0?7", 1);
        answer("0?7;5", 5);
        answer("1?7;5", 7);
        answer("-1?7;5", 7);
        answer("0?7;0?8;9?6;5", 6);
        answer("4;5", 4);
        answer("0;5", 1);
        answer("1?0;5", 1);
        answer("k>4?m;p", 40);
        answer("k>5?m;p", 3);
        answer("1?2;1/0?3;4", 2);
        // 65536 * 65536 wraps to 0, 2 * 1073741824 to below 0
        answer("256*256*256*256+9", 9);
        answer("4096*4096*128<0?5;6", 5);
        // the least int by -1 is itself
        answer("4096*4096*128/-1<0?5;6", 5);
        answer("4096*4096*128%-1+4", 4);
        answer("-(4096*4096*128)<0?5;6", 5);
    }

    private static void whatStays() {
        PennyALap x = new PennyALap();
        x.child(3);
        due.is("a law", Due.law(x, "7"), 1);
        due.is("a fault", Due.law(x, "8("), -101);
        due.is("the law ahead of the fault stays", x.lap(0, 0), 7);
        due.is("an empty tape", x.law(), -100);
        due.is("it stays again", x.lap(0, 0), 7);
        due.is("another law", Due.law(x, "k+1"), 1);
        due.is("it counts", x.lap(0, 4000), 5);
        due.is("laws are no changes", x.count(3), 0);
    }

    private static void lap() {
        PennyALap x = new PennyALap();
        due.is("lap(0, 0) of nobody", x.lap(0, 0), -1);
        x.child(30);
        x.child(2);
        due.is("lap(-1, 0)", x.lap(-1, 0), -1);
        due.is("lap(2, 0)", x.lap(2, 0), -1);
        due.is("lap(0, -1)", x.lap(0, -1), -1);
        due.is("lap(0, 100000)", x.lap(0, 100000), -1);
        due.is("lap(0, MAX)", x.lap(0, Integer.MAX_VALUE), -1);
        due.is("lap(0, MIN)", x.lap(0, Integer.MIN_VALUE), -1);
        due.is("lap(0, 99999)", x.lap(0, 99999), 30);
        x.mend(1, 1, 3);
        x.mend(0, 9, 4);
        due.is("p 2, t 3, k 5, r 4", x.lap(1, 5000), 2 + 3 + 4);
        due.is("p 2, t 3, k 6, r 4", x.lap(1, 6000), 2 + 4 + 4);
        x.mend(1, 1, 9);
        due.is("p 2, t 9, k 99, r 4: held", x.lap(1, 99000), 99);
        due.is("p 2, t 9, k 41, r 4", x.lap(1, 41000), 98);
        Due.law(x, "m%100");
        due.is("m 999", x.lap(1, 99999), 99);
        due.is("m 57", x.lap(1, 57), 57);
        Due.law(x, "k");
        due.is("k 99", x.lap(1, 99999), 99);
        due.is("k 0", x.lap(1, 999), 1);
    }

    /** A part of a law: its text, and what it gives by p, t, k, m, r, c. */
    private record Part(String text, int value) {
    }

    private static Part joined(Random random, int level, int open, int[] env) {
        if (level == 5) {
            return operand(random, open, env);
        }
        Part part = joined(random, level + 1, open, env);
        String[] signs = {"|", "&", "<=>", "+-", "*/%"};
        int joins = random.nextInt(5) == 0 ? 1 + random.nextInt(level == 2 ? 1 : 2) : 0;
        for (int i = 0; i < joins; i++) {
            char sign = signs[level].charAt(random.nextInt(signs[level].length()));
            Part other = joined(random, level + 1, open, env);
            part = new Part(part.text + sign + other.text, worked(sign, part.value, other.value));
        }
        return part;
    }

    private static int worked(char sign, int a, int b) {
        boolean is = sign == '|' ? (a | b) != 0 : sign == '&' ? a != 0 && b != 0
            : sign == '<' ? a < b : sign == '=' ? a == b : a > b;
        return switch (sign) {
            case '+' -> a + b;
            case '-' -> a - b;
            case '*' -> a * b;
            case '/' -> b == 0 ? 0 : a / b;
            case '%' -> b == 0 ? 0 : a % b;
            default -> is ? 1 : 0;
        };
    }

    private static Part operand(Random random, int open, int[] env) {
        int choice = random.nextInt(open < 6 ? 6 : 3);
        if (choice == 0) {
            int number = random.nextInt(random.nextBoolean() ? 10 : 10000);
            return new Part(Integer.toString(number), number);
        }
        if (choice <= 2) {
            int name = random.nextInt(6);
            return new Part("ptkmrc".substring(name, name + 1), env[name]);
        }
        if (choice == 3) {
            Part part = joined(random, 0, open + 1, env);
            return new Part("(" + part.text + ")", part.value);
        }
        Part part = operand(random, open + 1, env);
        return choice == 4 ? new Part("!" + part.text, part.value == 0 ? 1 : 0) : new Part("-" + part.text, -part.value);
    }

    private static Part lines(Random random, int[] env) {
        StringBuilder text = new StringBuilder();
        int value = 0;
        boolean counts = false;
        int lines = 1 + random.nextInt(3);
        for (int i = 0; i < lines; i++) {
            text.append(i == 0 ? "" : ";");
            Part first = joined(random, 0, 0, env);
            text.append(first.text);
            Part second = random.nextBoolean() ? joined(random, 0, 0, env) : null;
            text.append(second == null ? "" : "?" + second.text);
            if (!counts && (second == null || first.value != 0)) {
                counts = true;
                value = second == null ? first.value : second.value;
            }
        }
        return new Part(text.toString(), value);
    }

    private static void randomLaws() {
        Random random = new Random(46);
        for (int i = 0; i < 20000; i++) {
            int[] env = {1 + random.nextInt(30), random.nextInt(10), random.nextInt(100), random.nextInt(1000),
                random.nextInt(10), random.nextInt(3)};
            Part law = lines(random, env);
            if (law.text.length() > 120) {
                continue;
            }
            PennyALap x = new PennyALap();
            x.child(30);
            x.child(29);
            x.child(28);
            x.mend(env[5], 0, env[0]);
            x.mend(env[5], 1, env[1]);
            x.mend(0, 9, env[4]);
            due.is("law() of " + law.text, Due.law(x, law.text), 1);
            int held = Math.max(1, Math.min(99, law.value));
            due.is("lap by " + law.text, x.lap(env[5], 1000 * env[2] + env[3]), held);
        }
    }

    /** The place of the fault, found without recursion: a stack of what is open, a look at each byte. */
    private static int faultOf(String text) {
        Deque<Character> open = new ArrayDeque<>();
        Deque<Boolean> compared = new ArrayDeque<>();
        compared.push(false);
        boolean wants = true;
        boolean conditional = false;
        int digits = 0;
        for (int i = 0; i < text.length(); i++) {
            char sign = text.charAt(i);
            boolean digit = sign >= '0' && sign <= '9';
            if (wants) {
                if (digit || "ptkmrc".indexOf(sign) >= 0) {
                    wants = false;
                    digits = digit ? 1 : 9;
                    close(open);
                } else if ("(!-".indexOf(sign) >= 0 && open.size() < 6) {
                    open.push(sign);
                    if (sign == '(') {
                        compared.push(false);
                    }
                } else {
                    return i;
                }
                continue;
            }
            if (digit && digits < 4) {
                digits++;
                continue;
            }
            digits = 9;
            if (sign == ')' && !open.isEmpty()) {
                open.pop();
                compared.pop();
                close(open);
            } else if ("<=>".indexOf(sign) >= 0 && !compared.peek()) {
                compared.pop();
                compared.push(true);
                wants = true;
            } else if ("|&".indexOf(sign) >= 0) {
                compared.pop();
                compared.push(false);
                wants = true;
            } else if ("+-*/%".indexOf(sign) >= 0) {
                wants = true;
            } else if (open.isEmpty() && (sign == ';' || sign == '?' && !conditional)) {
                conditional = sign == '?';
                compared.pop();
                compared.push(false);
                wants = true;
            } else {
                return i;
            }
        }
        return wants || !open.isEmpty() ? text.length() : -1;
    }

    /** An O has ended, and with it the ! and - ahead of it. */
    private static void close(Deque<Character> open) {
        while (!open.isEmpty() && open.peek() != '(') {
            open.pop();
        }
    }

    private static void randomFaults() {
        Random random = new Random(47);
        String signs = "ptkmrc0123456789(((())))!!--+*/%<=>|&;?x ";
        for (int i = 0; i < 40000; i++) {
            StringBuilder text = new StringBuilder(lines(random, new int[6]).text);
            int hurts = random.nextInt(4);
            for (int j = 0; j < hurts && text.length() > 0; j++) {
                int at = random.nextInt(text.length());
                char sign = signs.charAt(random.nextInt(signs.length()));
                switch (random.nextInt(4)) {
                    case 0 -> text.deleteCharAt(at);
                    case 1 -> text.insert(at, sign);
                    case 2 -> text.setCharAt(at, sign);
                    default -> text.setLength(at);
                }
            }
            if (text.length() <= 120) {
                fault(text.toString(), faultOf(text.toString()));
            }
        }
    }
}
