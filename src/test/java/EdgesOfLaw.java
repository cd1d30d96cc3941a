/** The edges of promises 7 to 9, and of what Terms 1 says of the law. */
final class EdgesOfLaw extends EdgesOf {
    /** Texts that wrap: 4096 * 4096 * 128 is 2 to the 31st, so the least int, and one less the greatest. */
    private static final String LEAST = "(4096*4096*128)";
    private static final String GREATEST = "(4096*4096*128-1)";

    EdgesOfLaw(Edges edges) {
        super(edges);
    }

    @Override
    void all() {
        tape();
        lines();
        levels();
        operands();
        open();
        wraps();
        truths();
        linesThatCount();
        faults();
        heldWithin();
        withoutText();
        feed();
        law();
        lap();
    }

    /** The answer of law() to a text; place -1: it is a law. */
    private void fault(String text, int place) {
        edges.is("law() of " + text, Due.law(new PennyALap(), text), place < 0 ? 1 : -100 - place);
    }

    /** The minutes by a text of a child 0 with pace 3, tires 2, rain 7 behind 5 laps, 40 minutes. */
    private void gives(String text, int want) {
        PennyALap x = new PennyALap();
        x.child(3);
        x.mend(0, 1, 2);
        x.mend(0, 9, 7);
        edges.is("law() of " + text, Due.law(x, text), 1);
        edges.is("lap(0, 5040) by " + text, x.lap(0, 5040), want);
    }

    private void tape() {
        edges.term(1, "THE LAW is a TEXT by THE TAPE (at most 120 bytes)");
        fault("1" + "+1".repeat(59), -1);
        gives("12" + "+1".repeat(59), 71);
        String full = "21" + "+1".repeat(59);
        PennyALap x = new PennyALap();
        x.child(9);
        for (char sign : full.toCharArray()) {
            x.feed(sign);
        }
        edges.is("a byte more does not come", x.feed('1'), -3);
        edges.is("the 120 are the law", x.law(), 1);
        edges.is("by all 120 of them", x.lap(0, 0), 80);
        gives("-7" + "+1".repeat(59), 52);
        gives("0?1;".repeat(29) + "0055", 55);
        fault("0?1;".repeat(30), 120);
    }

    private void lines() {
        edges.term(1, "LINES, one or more, parted by ; . LINE: E, or E ? E (what counts if the first is not 0).");
        fault("", 0);
        fault(";", 0);
        fault("1", -1);
        fault("1;", 2);
        fault(";1", 0);
        fault("1;2", -1);
        fault("1;;2", 2);
        fault("1?2", -1);
        fault("1?2;", 4);
        fault("1?", 2);
        fault("?1", 0);
        fault("1??2", 2);
        fault("1?2?3", 3);
        fault("1;2?3;4", -1);
        fault("(1;2)", 2);
        fault("(1?2)", 2);
        fault("1?2|3", -1);
        fault("1|0?2|3;4|5", -1);
        fault("1?((((((2))))))", -1);
        fault("1?(((((((2)))))))", 8);
        gives("1?6;5", 6);
        gives("-1?6;5", 6);
        gives("0?6;5", 5);
        gives("0|1?6;5", 6);
        gives("1?0|6;5", 1);
    }

    private void levels() {
        edges.term(1, "E = A { | A }. A = B { & B }. B = S, or S < S, S = S, S > S. S = P { + P, - P }. P = O { * O, / O, % O }.");
        for (String sign : new String[] {"|", "&", "+", "-", "*", "/", "%"}) {
            fault("1" + sign + "1", -1);
            fault("1" + sign + "1" + sign + "1" + sign + "1", -1);
            fault("1" + sign, 2);
            fault("1" + sign + sign + "1", sign.equals("-") ? -1 : 2);
            fault(sign + "1", sign.equals("-") ? -1 : 0);
        }
        for (String sign : new String[] {"<", "=", ">"}) {
            fault("1" + sign + "1", -1);
            fault("1" + sign, 2);
            fault(sign + "1", 0);
            for (String other : new String[] {"<", "=", ">"}) {
                fault("1" + sign + other + "1", 2);
                fault("1" + sign + "1" + other + "1", 3);
                fault("(1" + sign + "1)" + other + "1", -1);
                fault("1" + sign + "1|1" + other + "1", -1);
                fault("1" + sign + "1&1" + other + "1", -1);
                fault("1" + sign + "1+1" + other + "1", 5);
            }
        }
        gives("9-2-1", 6);
        gives("40/4/5", 2);
        gives("40/4*5", 50);
        gives("9-2*3", 3);
        gives("9-8%5", 6);
        gives("3<1+3", 1);
        gives("(1<2)*7", 7);
        gives("(1|0&0)*7+1", 8);
        gives("(0&0|1)*7+1", 8);
        gives("(1<2&0)*7+1", 1);
    }

    private void operands() {
        edges.term(1, "O = a number (1 to 4 digits), a NAME, ! O, - O, ( E ).");
        for (String right : new String[] {"0", "00", "000", "0000", "9999", "!1", "-1", "(1)", "p", "t", "k", "m", "r", "c", "!-1", "-!1"}) {
            fault(right, -1);
        }
        fault("00000", 4);
        fault("12345", 4);
        fault("1+12345", 6);
        fault("99999", 4);
        fault("!", 1);
        fault("-", 1);
        fault("(", 1);
        fault("()", 1);
        fault(")", 0);
        fault("(1", 2);
        fault("1)", 1);
        fault("1p", 1);
        fault("p1", 1);
        fault("pp", 1);
        fault("1!", 1);
        fault("1(", 1);
        fault("(1)(", 3);
        gives("0007", 7);
        gives("9999/999", 10);
        edges.term(1, "NAMES: p PACE, t TIRES, k LAPS it has done ahead, m minutes it has run ahead, r RAIN, c the CHILD.");
        gives("p", 3);
        gives("t", 2);
        gives("k", 5);
        gives("m", 40);
        gives("r", 7);
        gives("c+9", 9);
        PennyALap x = new PennyALap();
        for (int pace = 11; pace <= 16; pace++) {
            x.child(pace);
        }
        Due.law(x, "p*(m=0)+c*(k=0)");
        edges.is("the first child, k 0, m 0", x.lap(0, 0), 11);
        edges.is("the last child, k 0, m 0", x.lap(5, 0), 21);
        edges.is("the last child, k 1, m 0", x.lap(5, 1000), 16);
        edges.is("the last child, k 0, m 1", x.lap(5, 1), 5);
        edges.term(1, "No blanks.");
        fault(" ", 0);
        fault(" 1", 0);
        fault("1 ", 1);
        fault("1 +1", 1);
        fault("1+ 1", 2);
        fault("1;\t2", 2);
        fault("1\n", 1);
    }

    private void open() {
        edges.term(1, "At most 6 of ( ! - ahead of an O are open at once.");
        for (String sign : new String[] {"(", "!", "-"}) {
            String end = sign.equals("(") ? ")" : "";
            fault(sign.repeat(6) + "1" + end.repeat(6), -1);
            fault(sign.repeat(7) + "1" + end.repeat(7), 6);
            fault("1+" + sign.repeat(7) + "1" + end.repeat(7), 8);
        }
        fault("!-(!-(1))", -1);
        fault("!-(!-(!1))", 6);
        fault("!-(!-(-1))", 6);
        fault("!-(!-((1)))", 6);
        // what is closed is open no more; a - between two P is none of them
        fault("((((((1))))))+((((((1))))))", -1);
        fault("!!!!!!1+!!!!!!1;!!!!!!1?------1", -1);
        fault("(((((!1+!1-!1)))))", -1);
        fault("(((((!!1)))))", 6);
        fault("((((((1-1))))))", -1);
        fault("((((((1--1))))))", 8);
        gives("((((((7))))))", 7);
        gives("------7", 7);
        gives("!!!!!!7+1", 2);
    }

    private void wraps() {
        edges.term(1, "Ints that wrap; / and % toward 0, by 0 they give 0");
        gives(LEAST + "<0?7;8", 7);
        gives(GREATEST + ">0?7;8", 7);
        gives(GREATEST + "+1=" + LEAST + "?7;8", 7);
        gives(LEAST + "-1=" + GREATEST + "?7;8", 7);
        gives(GREATEST + "*2=-2?7;8", 7);
        gives(LEAST + "*2=0?7;8", 7);
        gives("-" + LEAST + "=" + LEAST + "?7;8", 7);
        gives(LEAST + "/-1=" + LEAST + "?7;8", 7);
        gives(LEAST + "%-1=0?7;8", 7);
        gives("4096*4096*256=0?7;8", 7);
        gives(GREATEST + "+" + GREATEST + "=-2?7;8", 7);
        gives("20+7/2", 23);
        gives("20+-7/2", 17);
        gives("20+7/-2", 17);
        gives("20+-7/-2", 23);
        gives("20+-1/2", 20);
        gives("20+-7%4", 17);
        gives("20+7%-4", 23);
        gives("20+-7%-4", 17);
        gives("20+7/0", 20);
        gives("20+7%0", 20);
        gives("20+0/0", 20);
        gives("20+-7/0", 20);
        gives("20+7/(k-5)", 20);
        gives("20+7%(k-5)*9", 20);
    }

    private void truths() {
        edges.term(1, "| & < = > ! give 1, 0; all is worked out.");
        gives("20+(7|9)", 21);
        gives("20+(0|-9)", 21);
        gives("20+(-9|0)", 21);
        gives("20+(0|0)", 20);
        gives("20+(7&9)", 21);
        gives("20+(8&4)", 21);
        gives("20+(7&0)", 20);
        gives("20+(0&7)", 20);
        gives("20+(0&0)", 20);
        gives("20+(2<3)", 21);
        gives("20+(3<3)", 20);
        gives("20+(4<3)", 20);
        gives("20+(2=3)", 20);
        gives("20+(3=3)", 21);
        gives("20+(2>3)", 20);
        gives("20+(3>3)", 20);
        gives("20+(4>3)", 21);
        gives("20+(-4<3)", 21);
        gives("20+(" + LEAST + "<" + GREATEST + ")", 21);
        gives("20+(" + LEAST + ">" + GREATEST + ")", 20);
        gives("20+!0", 21);
        gives("20+!7", 20);
        gives("20+!-1", 20);
        gives("20+!!7", 21);
        gives("1|1/0?7;8", 7);
        gives("0&1/0?7;8", 8);
    }

    private void linesThatCount() {
        edges.term(1, "The first LINE without a first E, or whose first E is not 0, counts; none: 0.");
        gives("6;7", 6);
        gives("0;7", 1);
        gives("0?6;7", 7);
        gives("0?6;0?5;7", 7);
        gives("1?6;7", 6);
        gives("-1?6;7", 6);
        gives("1?6;1?7", 6);
        gives("0?6;1?7", 7);
        gives("6;1?7", 6);
        gives("1?0;7", 1);
        gives("0?6", 1);
        gives("0?6;0?7;0?8", 1);
        gives(LEAST + "?6;7", 6);
    }

    private void faults() {
        edges.term(1, "FAULT: the place (from 0) of the first byte with which no TEXT goes on; the length, if it ends too early.");
        fault("x", 0);
        fault("\u0000", 0);
        fault("\u00ff", 0);
        fault("P", 0);
        fault("+", 0);
        fault("1+2x+", 3);
        fault("1+2+x+", 4);
        fault("p+", 2);
        fault("((1)", 4);
        fault("1?2;3?", 6);
        fault("p+k*(t-", 7);
        fault("1" + "+1".repeat(59) + "x", 119);
        fault("12" + "+1".repeat(58) + "+x", 119);
        fault("1+".repeat(60), 120);
        fault("x" + "1".repeat(119), 0);
        // every sign where an operand is wanted, and behind one
        for (int sign = 0; sign <= 255; sign++) {
            char c = (char) sign;
            boolean begins = "0123456789ptkmrc(!-".indexOf(c) >= 0;
            boolean opens = "(!-".indexOf(c) >= 0;
            fault("1+" + c, begins ? opens ? 3 : -1 : 2);
            boolean goesOn = "|&<=>+-*/%?;".indexOf(c) >= 0;
            fault("p" + c, goesOn ? 2 : 1);
            fault("(p" + c, c == ')' ? -1 : goesOn && c != '?' && c != ';' ? 3 : 2);
        }
    }

    private void heldWithin() {
        edges.term(1, "It gives how many minutes the next LAP takes (held within 1 .. 99).");
        gives("0", 1);
        gives("1", 1);
        gives("2", 2);
        gives("-1", 1);
        gives("-9999", 1);
        gives("98", 98);
        gives("99", 99);
        gives("100", 99);
        gives("9999", 99);
        gives(LEAST, 1);
        gives(GREATEST, 99);
        PennyALap x = new PennyALap();
        x.child(9);
        Due.law(x, "100");
        edges.is("minutes(0, 2) by 100", x.minutes(0, 2), 198);
        edges.is("run(0) by 100", x.run(0), 99);
        edges.is("laps(0, 99, 0) by 100", x.laps(0, 99, 0), 1);
        Due.law(x, "-5");
        edges.is("minutes(0, 99) by -5", x.minutes(0, 99), 99);
        edges.is("run(0) by -5", x.run(0), 100);
        edges.is("drawn by -5", x.drawn(1, 1050, 0), 50);
        edges.is("field by -5", x.field(300, -2), 0);
    }

    private void withoutText() {
        edges.term(1, "Without a text: p and t times k by 4 (cut) and r.");
        PennyALap x = new PennyALap();
        x.child(1);
        edges.is("the least there is", x.lap(0, 0), 1);
        x.mend(0, 1, 3);
        edges.is("3 times 1 by 4", x.lap(0, 1000), 1);
        edges.is("3 times 2 by 4", x.lap(0, 2000), 2);
        edges.is("3 times 3 by 4", x.lap(0, 3000), 3);
        edges.is("3 times 4 by 4", x.lap(0, 4000), 4);
        x.mend(0, 9, 9);
        edges.is("and rain", x.lap(0, 3999), 12);
        x.mend(0, 0, 30);
        edges.is("and pace", x.lap(0, 3000), 41);
        edges.is("without m", x.lap(0, 3999), 41);
    }

    private void feed() {
        edges.promise(7, "A byte (0 .. 255) comes to THE TAPE: how many it has. BAD, FULL (120).");
        PennyALap x = new PennyALap();
        for (int i = 1; i <= 120; i++) {
            edges.is("byte " + i, x.feed(i == 1 ? 255 : i == 2 ? 0 : 49), i);
        }
        edges.is("byte 121", x.feed(49), -3);
        edges.is("count(2)", x.count(2), 120);
        for (int letter : new int[] {-1, 256, MIN, MAX}) {
            edges.refused("feed(" + letter + ")", FRESH, -1, y -> y.feed(letter));
            edges.refused("feed(" + letter + ")", SOME, -1, y -> y.feed(letter));
            edges.refused("feed(" + letter + ")", FULL, -1, y -> y.feed(letter));
        }
        for (int letter : new int[] {0, 49, 255}) {
            edges.refused("feed(" + letter + ")", FULL, -3, y -> y.feed(letter));
        }
    }

    private void law() {
        edges.promise(8, "THE TAPE becomes THE LAW: 1; -100 less its FAULT; THE TAPE is empty then.");
        PennyALap x = new PennyALap();
        x.child(3);
        edges.is("an empty tape", x.law(), -100);
        edges.is("still no law", x.lap(0, 0), 3);
        edges.is("a law", Due.law(x, "8"), 1);
        edges.is("it counts", x.lap(0, 0), 8);
        edges.is("count(2)", x.count(2), 0);
        edges.is("an empty tape again", x.law(), -100);
        edges.is("the law stays", x.lap(0, 0), 8);
        edges.is("a fault at 0", Due.law(x, "x"), -100);
        edges.is("a fault at 2", Due.law(x, "9+x"), -102);
        edges.is("count(2) behind a fault", x.count(2), 0);
        edges.is("the law stays behind a fault", x.lap(0, 0), 8);
        edges.is("the tape begins anew", x.feed('7'), 1);
        edges.is("a law of one byte", x.law(), 1);
        edges.is("and it counts", x.lap(0, 0), 7);
        edges.is("a fault at the end of 120", Due.law(x, "1+".repeat(60)), -220);
        edges.is("count(2)", x.count(2), 0);
        edges.is("120 bytes come again", Due.law(x, "1*".repeat(59) + "66"), 1);
        edges.is("and count", x.lap(0, 0), 66);
    }

    private void lap() {
        edges.promise(9, "behind k (0 .. 99) LAPS, m (0 .. 999) minutes (km: 1000 k and m). BAD.");
        PennyALap x = new PennyALap();
        x.child(3);
        x.mend(0, 2, 4);
        Due.law(x, "k");
        edges.is("k 0, m 999", x.lap(0, 999), 1);
        edges.is("k 1, m 0", x.lap(0, 1000), 1);
        edges.is("k 2, m 999", x.lap(0, 2999), 2);
        edges.is("k 99, m 999, beyond stops", x.lap(0, 99999), 99);
        Due.law(x, "m-900");
        edges.is("m 999", x.lap(0, 99999), 99);
        edges.is("m 998", x.lap(0, 998), 98);
        edges.is("m 0", x.lap(0, 99000), 1);
        Due.law(x, "m+5");
        edges.is("m 0 and 5", x.lap(0, 0), 5);
        for (int km : new int[] {-1, -1000, 100000, 100999, MIN, MAX}) {
            edges.refused("lap(0, " + km + ")", SOME, -1, y -> y.lap(0, km));
        }
        for (int child : new int[] {-1, 3, MIN, MAX}) {
            edges.refused("lap(" + child + ", 0)", SOME, -1, y -> y.lap(child, 0));
        }
        edges.refused("lap(0, 0)", FRESH, -1, y -> y.lap(0, 0));
        edges.refused("lap(6, 0)", FULL, -1, y -> y.lap(6, 0));
    }
}
