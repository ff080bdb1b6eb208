/** SIZES at their edges: what just fits and what is one too many, each in every way that the document names. */
public final class SizeTest {
    private static final String F = "node f(a: int) returns (r: int); let r = a; tel ";
    private static final String G = "node g(a, e: int; o: bool) returns (r: bool); let r = o; tel ";
    private static final String TWO = "node two(a: int; b: bool) returns (r: int; s: bool); let r = a; s = b; tel ";
    private static final String MAIN = "node main(c: bool; x: int) returns (y: int; b: bool); ";
    private static final String INT = F + G + TWO + MAIN + "let b = c; y = ";
    private static final String BOOL = F + G + TWO + MAIN + "let y = x; b = ";
    private static final int DEEPEST = 40;

    private SizeTest() {
    }

    public static void main(String[] args) {
        partsOfEach();
        partsAsPutIn();
        partsOfAText();
        variablesOfAText();
        partsOfAllTexts();
        textsThatDoNotCount();
        heightOfEach();
        heightOfBools();
        heightBeyond();
        heightOfEachAlone();
        heightOfManyOutputs();
        nestedWays();
        nestedWhateverStandsThere();
        nestedInManyOutputs();
        notNested();
        closedAgain();
        variablesOfANode();
        nodesOfAText();
        deepClocks();
        deepClocksInExpressions();
        Check.finish(SizeTest.class);
    }

    private static String times(String what, int count) {
        return what.repeat(count);
    }

    /** A mark tells the place. */
    private static void tooMuch(String text) {
        Check.faultyAt(text, 3);
    }

    private static void parts(String text, int due) {
        Check.same("parts of " + text, Check.program(text).count(4), due);
    }

    private static void partsOfEach() {
        Check.sentence("PARTS: each EQUATION; in EXPRESSIONS each NUMBER, true, false, VARIABLE (but C behind when),"
            + " call, sign or word of one or two sides, if, ->, fby, when");
        // The EQUATION of y, and b = c with its own.
        int rest = 1 + 2;
        String[] ofOne = {"0", "7", "x", "y0"};
        String vars = F + MAIN + "var y0: int; let b = c; y0 = 1; y = ";
        for (String one : ofOne) {
            parts(vars + one + "; tel", rest + 2 + 1);
            parts(vars + "(" + one + "); tel", rest + 2 + 1);
            parts(vars + "((" + one + ")); tel", rest + 2 + 1);
            for (String unary : new String[] {"- ", "pre ", "- - ", "pre - ", "- (-"}) {
                int added = unary.equals("- ") || unary.equals("pre ") ? 1 : 2;
                parts(vars + unary + one + (unary.endsWith("(-") ? ")" : "") + "; tel", rest + 2 + 1 + added);
            }
            for (String two : new String[] {"+", "-", "*", "div", "mod", "->", "fby"}) {
                parts(vars + one + " " + two + " x; tel", rest + 2 + 3);
            }
            parts(vars + "current (" + one + " when c); tel", rest + 2 + 3);
            parts(vars + "current (" + one + " when not c); tel", rest + 2 + 3);
            parts(vars + "if c then " + one + " else 2; tel", rest + 2 + 4);
            // A call, what is in it, and what is put in for it: r = a.
            parts(vars + "f(" + one + "); tel", rest + 2 + 2 + 2);
        }
        String bools = MAIN + "let y = x; b = ";
        for (String one : new String[] {"true", "false", "c"}) {
            parts(bools + one + "; tel", rest + 1);
            parts(bools + "not " + one + "; tel", rest + 2);
            for (String two : new String[] {"and", "or", "xor", "=>", "=", "<>", "->", "fby"}) {
                parts(bools + one + " " + two + " c; tel", rest + 3);
            }
        }
        for (String two : new String[] {"=", "<>", "<", "<=", ">", ">="}) {
            parts(bools + "x " + two + " 1; tel", rest + 3);
        }
        parts(MAIN + "var h: int when c; let y = x; b = c; h = 1; tel", 6);
        parts(TWO + MAIN + "let (y, b) = two(x, c); tel", 4 + 1 + 1 + 2);
    }

    private static void partsAsPutIn() {
        Check.sentence("each as often as it is PUT IN");
        String inner = "node i(a: int) returns (r: int); let r = a + 1; tel ";
        String outer = "node o(a: int) returns (r: int); let r = i(a) + i(i(a)); tel ";
        String main = "node main(x: int) returns (y: int); let y = ";
        parts(inner + outer + main + "x; tel", 2);
        parts(inner + outer + main + "i(x); tel", 3 + 4);
        parts(inner + outer + main + "o(x); tel", 3 + (1 + 2 + 3 + 1) + 3 * 4);
        parts(inner + outer + main + "o(x) + o(1) + i(x); tel", 3 * 2 + 2 + 1 + 2 * (7 + 3 * 4) + 4);
        StreamNodes nodes = Check.program(inner + outer + main + "o(x) + o(1) + i(x); tel");
        Check.same("variables", nodes.count(3), 2 + 2 * (2 + 3 * 2) + 2);
    }

    /** A node of 98 parts that is called 29 times, and a sum for the rest: from 2,931 parts on. */
    private static String textOf(int parts) {
        String node = "node h(a: int) returns (r: int); let r = a" + times(" + a", 48) + "; tel ";
        String main = "node main(x: int) returns (y, z: int); let y = h(x)" + times(" + h(x)", 28) + "; z = ";
        int rest = parts - 29 * (98 + 2) - 28 - 2;
        return node + main + (rest % 2 == 0 ? "- " : "") + "x" + times(" + x", (rest - 1) / 2) + "; tel";
    }

    private static void partsOfAText() {
        Check.sentence("at most 3,000");
        for (int parts : new int[] {2931, 2932, 2998, 2999, 3000}) {
            Check.same("count(4)", Check.program(textOf(parts)).count(4), parts);
        }
        for (int parts : new int[] {3001, 3002, 3100}) {
            Check.faulty(textOf(parts), 3, textOf(parts).length());
            Check.faulty(textOf(parts) + " -- end\n", 3, textOf(parts).length() + 8);
        }
        // What is not called is not put in.
        Check.same("count(4)", Check.program(textOf(3100) + " node m(x: int) returns (y: int); let y = x;"
            + " tel").count(4), 2);
        // Each node calls the one before it twice: far more than any int can count.
        Check.faultyAt(doubling(59) + "@", 3);
        Check.same("count(4)", Check.program(doubling(58) + "node m(x: int) returns (y: int); let y = x;"
            + " tel").count(4), 2);
    }

    private static String doubling(int nodes) {
        StringBuilder text = new StringBuilder("node n0(x: int) returns (y: int); let y = x; tel ");
        for (int i = 1; i < nodes; i++) {
            text.append("node n").append(i).append("(x: int) returns (y: int); let y = n").append(i - 1).append("(n")
                .append(i - 1).append("(x)); tel ");
        }
        return text.toString();
    }

    private static String names(String letter, int count) {
        StringBuilder names = new StringBuilder(letter + "0");
        for (int i = 1; i < count; i++) {
            names.append(",").append(letter).append(i);
        }
        return names.toString();
    }

    /** Nodes with 98 outputs that only hand on: w0 to w13, and s that calls the last: 15 times 99 variables. */
    private static String wide() {
        String outs = names("o", 98);
        StringBuilder text = new StringBuilder("node w0(x:int)returns(" + outs + ":int);let ");
        for (int i = 0; i < 98; i++) {
            text.append("o").append(i).append("=x;");
        }
        text.append("tel ");
        for (int i = 1; i <= 13; i++) {
            text.append("node w").append(i).append("(x:int)returns(").append(outs).append(":int);let (").append(outs)
                .append(")=w").append(i - 1).append("(x);tel ");
        }
        return text + "node s(x:int)returns(y:int);var " + names("o", 97) + ":int;let (y," + names("o", 97)
            + ")=w13(x);tel ";
    }

    private static void variablesOfAText() {
        Check.sentence("at most 6,000 VARIABLES as PUT IN");
        for (int due = 5997; due <= 6003; due++) {
            // 4 times those of s, 2 for each f, and 2 or 3 of the main.
            int calls = (due - 4 * 15 * 99 - 2) / 2;
            boolean three = due % 2 == 1;
            String text = F + wide() + "node main(x:int)returns(y:int);" + (three ? "var z:int;let z=x;" : "let ")
                + "y=s(x)+s(x)+s(x)+s(x)+" + times("f(", calls) + "x" + times(")", calls) + ";tel";
            if (due <= 6000) {
                StreamNodes nodes = Check.program(text);
                Check.same("count(3)", nodes.count(3), due);
                nodes.input(0, 5);
                nodes.tick(2);
                Check.same("what many nodes hand on", nodes.value(1), 25);
                Check.same("causes through many nodes", nodes.causes(1, 0), true);
            } else {
                Check.faulty(text, 3, text.length());
            }
        }
    }

    private static void partsOfAllTexts() {
        Check.sentence("and 30,000 of all TEXTS that were read without a FAULT, or with 7");
        StreamNodes nodes = new StreamNodes();
        for (int i = 0; i < 10; i++) {
            Check.same("the first " + 3000 * (i + 1), Check.read(nodes, textOf(3000)), 61);
        }
        String least = "node m(x: int) returns (y: int); let y = x; tel";
        for (int i = 0; i < 3; i++) {
            Check.same("beyond 30,000", Check.read(nodes, least), -1);
            Check.same("fault(0)", nodes.fault(0), 3);
            Check.same("fault(1)", nodes.fault(1), least.length());
        }
        StreamNodes exact = new StreamNodes();
        for (int i = 0; i < 9; i++) {
            Check.read(exact, textOf(3000));
        }
        Check.read(exact, textOf(2998));
        Check.same("29,998 and 3", Check.read(exact, "node m(x: int) returns (y: int); let y = - x; tel"), -1);
        Check.same("29,998 and 2", Check.read(exact, least), 2);
        Check.same("30,000 and 2", Check.read(exact, least), -1);
        Check.same("another object", Check.read(new StreamNodes(), least), 2);
    }

    private static void textsThatDoNotCount() {
        Check.sentence("TEXTS that were read without a FAULT, or with 7");
        String good = textOf(2999);
        String[] spoiled = {good + "#", good.replace("z = ", "z = z0 + "), good.replace("z = ", "z = true + "),
            good.replace("z = ", "z = h(1, 2) + "), textOf(3001), good.replace("z: int", "z: int; c: bool"),
            good.replace("y, z", "y, z, v")};
        StreamNodes nodes = new StreamNodes();
        for (int i = 0; i < 3; i++) {
            for (String text : spoiled) {
                Check.same("a spoiled text", Check.read(nodes, text), -1);
                Check.same("its fault is none of 0 and 7", nodes.fault(0) % 7 != 0, true);
            }
        }
        String circle = good.replace("z = x", "z = z");
        for (int i = 0; i < 5; i++) {
            Check.same("a good text", Check.read(nodes, good), 61);
            Check.same("one in a circle", Check.read(nodes, circle), -1);
            Check.same("its fault", nodes.fault(0), 7);
        }
        String eleven = "node m(x: int) returns (y: int); let y = - x + x + x + x + x; tel";
        Check.same("29,990 and 11", Check.read(nodes, eleven), -1);
        Check.same("its fault", nodes.fault(0), 3);
        Check.same("29,990 and 10", Check.read(nodes, eleven.replace("- x", "x")), 2);
        Check.same("30,000 and a circle", Check.read(nodes, "node m(x: int) returns (y: int); let y = y; tel"), -1);
        Check.same("3 ahead of 7", nodes.fault(0), 3);
    }

    private static String sum(int height) {
        return "x" + times(" + x", height - 1);
    }

    private static void heightOfEach() {
        Check.sentence("HEIGHT: NUMBER, true, false, VARIABLE 1, all else 1 more than the highest within: at most 200");
        Check.program(INT + sum(200) + "; tel");
        tooMuch(INT + sum(201) + "@; tel");
        String[][] wraps = {{"- (", ")"}, {"pre (", ")"}, {"f(", ")"}, {"if c then ", " else 1"},
            {"if c then 1 else ", ""}, {"(", ") -> 1"}, {"1 -> ", ""}, {"(", ") fby 1"}, {"1 fby ", ""}, {"1 + (", ")"},
            {"(", ") + 1"}, {"1 - (", ")"}, {"(", ") - 1"}, {"1 * (", ")"}, {"(", ") * 1"}, {"1 div (", ")"},
            {"(", ") div 1"}, {"1 mod (", ")"}, {"(", ") mod 1"}};
        for (String[] wrap : wraps) {
            Check.program(INT + wrap[0] + sum(199) + wrap[1] + "; tel");
            tooMuch(INT + wrap[0] + sum(200) + wrap[1] + "@; tel");
            tooMuch(INT + wrap[0] + sum(200) + wrap[1] + "@");
            Check.program(INT + "- (" + wrap[0] + sum(198) + wrap[1] + "); tel");
            tooMuch(INT + "- (" + wrap[0] + sum(199) + wrap[1] + ") @; tel");
            Check.program(INT + "((" + wrap[0] + sum(199) + wrap[1] + ")); tel");
        }
        Check.program(INT + "current ((" + sum(198) + ") when c); tel");
        tooMuch(INT + "current ((" + sum(199) + ") when c)@; tel");
        tooMuch(INT + "current ((" + sum(200) + ") when not c@); tel");
        tooMuch(INT + "(" + sum(200) + ") when c@; tel");
        tooMuch(INT + "pre (" + sum(200) + ") when c@; tel");
        Check.faultyAt(INT + "(" + sum(200) + ") when @none; tel", 2);
        String whens = "x" + times(" when c", 199);
        Check.faultyAt(INT.replace("y = ", "@y = ") + whens + "; tel", 6);
        tooMuch(INT + whens + " when c@; tel");
        tooMuch(INT + whens + " when not c @when c; tel");
    }

    private static void heightOfBools() {
        Check.sentence("HEIGHT: all else 1 more than the highest within: at most 200");
        String[][] wraps = {{"not (", ")"}, {"(", ") and c"}, {"c and (", ")"}, {"(", ") or c"}, {"c or (", ")"},
            {"(", ") xor c"}, {"c xor (", ")"}, {"(", ") => c"}, {"c => (", ")"}, {"(", ") = c"}, {"c = (", ")"},
            {"(", ") <> c"}, {"c <> (", ")"}, {"g(1, 2, ", ")"}, {"if ", " then c else c"}};
        for (String[] wrap : wraps) {
            String within = "c" + times(" and c", 198);
            Check.program(BOOL + wrap[0] + within + wrap[1] + "; tel");
            tooMuch(BOOL + wrap[0] + within + " and c" + wrap[1] + "@; tel");
        }
        for (String sign : new String[] {"=", "<>", "<", "<=", ">", ">="}) {
            Check.program(BOOL + "(" + sum(199) + ") " + sign + " 1; tel");
            tooMuch(BOOL + "(" + sum(200) + ") " + sign + " 1@; tel");
            Check.program(BOOL + "1 " + sign + " " + sum(199) + "; tel");
            tooMuch(BOOL + "1 " + sign + " " + sum(200) + "@; tel");
        }
    }

    private static void heightBeyond() {
        Check.sentence("3 an EXPRESSION beyond that HEIGHT: what stands behind it");
        for (String behind : new String[] {"#", "none", "tel", ")", "1234567890", "x", "then", "", "-> 1"}) {
            tooMuch(INT + sum(201) + " @" + behind);
            tooMuch(INT + "f(" + sum(201) + " @" + behind);
        }
        // What is not known within it is found first, as it stands ahead of its end.
        Check.faultyAt(INT + sum(200) + " + @none; tel", 2);
        Check.faultyAt(INT + sum(200) + " + @#; tel", 1);
        tooMuch(INT + "x + (" + sum(200) + ")@; tel");
        tooMuch(INT + "(" + sum(200) + ") + x * x @+ none; tel");
        Check.program(INT + "(" + sum(100) + ") + (" + sum(199) + "); tel");
    }

    private static void heightOfEachAlone() {
        Check.sentence("HEIGHT of an EXPRESSION");
        // What stood in another EXPRESSION, however high it was, adds nothing.
        String head = F + "node m(x: int) returns (y, z: int); let ";
        Check.program(head + "y = f(" + sum(199) + "); z = f(x) + 1; tel");
        Check.program(head + "y = - f(" + sum(198) + "); z = - f(x) + 1 + 2; tel");
        Check.program(head + "y = 1 + 1 * (" + sum(198) + "); z = " + sum(200) + "; tel");
        Check.program(head + "y = 1 + 1 * (" + sum(198) + "); z = - (1 + (2 + 3)); tel");
        Check.program(head + "y = (" + sum(198) + ") + f(x + x * x) ; z = " + sum(200) + "; tel");
        Check.program(head + "y = (" + sum(198) + ") + (x + f(" + sum(190) + ")); z = f(" + sum(199) + "); tel");
    }

    private static void heightOfManyOutputs() {
        Check.sentence("HEIGHT: all else 1 more than the highest within: at most 200");
        Check.program(TWO + MAIN + "let (y, b) = two(" + sum(199) + ", c); tel");
        tooMuch(TWO + MAIN + "let (y, b) = two(" + sum(201) + "@, c); tel");
    }

    /** Each with what is in front of and behind what is nested, its type, and its first WORD, NUMBER or sign. */
    private static final String[][] WAYS = {{"(", ")", "int", "(@"}, {"f(", ")", "int", "f(@"},
        {"if c then ", " else 1", "int", "if @c then "}, {"if c then 1 else ", "", "int", "if @c then 1 else "},
        {"if ", " then c else c", "bool", "if @"}, {"1 -> ", "", "int", "1 -> @"}, {"1 fby ", "", "int", "1 fby @"},
        {"c => ", "", "bool", "c => @"}, {"- ", "", "int", "- @"}, {"not ", "", "bool", "not @"},
        {"pre ", "", "int", "pre @"}, {"g(1, 2, ", ")", "bool", "g(@1, 2, "}, {"(", ")", "bool", "(@"},
        {"pre ", "", "bool", "pre @"}, {"true -> ", "", "bool", "true -> @"}, {"true fby ", "", "bool", "true fby @"}};

    private static void nestedWays() {
        Check.sentence("3 nested more than 40 deep (in ( ), behind if, then, else, ->, fby, =>, UNARY's words)");
        for (String[] way : WAYS) {
            boolean bool = way[2].equals("bool");
            String head = bool ? BOOL : INT;
            String inner = bool ? "c" : "x";
            nested(head, "", way, inner, "", DEEPEST);
            for (String[] other : WAYS) {
                if (other[2].equals(way[2])) {
                    // Only ( ) may stand around any of them.
                    String front = times("(" + other[0], 10) + "(";
                    String behind = ")" + times(other[1] + ")", 10);
                    nested(head, front, way, inner, behind, DEEPEST - 21);
                }
            }
        }
        Check.faultyAt(INT.replace("y = ", "@y = ") + times("current ", DEEPEST) + "x; tel", 6);
        tooMuch(INT + times("current ", DEEPEST + 1) + "@x; tel");
    }

    /** So often in one way, which fits, and once more, which does not. */
    private static void nested(String head, String front, String[] way, String inner, String behind, int most) {
        Check.program(head + front + times(way[0], most) + inner + times(way[1], most) + behind + "; tel");
        tooMuch(head + front + times(way[0], most) + way[3] + inner + times(way[1], most + 1) + behind + "; tel");
    }

    private static void nestedWhateverStandsThere() {
        Check.sentence("3 nested more than 40 deep: its first WORD, NUMBER or sign, whatever stands there");
        for (String[] way : WAYS) {
            String head = (way[2].equals("bool") ? BOOL : INT) + times(way[0], DEEPEST);
            String last = way[3].substring(0, way[3].indexOf('@'));
            for (String there : new String[] {"x", "c", "1", "true", "none", "none(", "f(1)", "#", "tel", ";", ")", "(",
                "then", "when", "1234567890", "a2345678901234567890123456789012", "", "- 1", "if c then", "="}) {
                tooMuch(head + last + " @" + there);
            }
        }
        // What can't stand there earlier is found earlier.
        Check.faultyAt(INT + times("(", DEEPEST) + "@)", 1);
        Check.faultyAt(INT + times("(", DEEPEST) + "@none + (x)", 2);
        Check.faultyAt(INT + times("(", DEEPEST) + "@none((x))", 2);
        tooMuch(INT + times("(", DEEPEST) + "f(@none)");
    }

    private static void nestedInManyOutputs() {
        Check.sentence("3 nested more than 40 deep (in ( ))");
        Check.program(TWO + MAIN + "let (y, b) = two(" + times("- ", 39) + "x, " + times("not ", 39) + "c); tel");
        tooMuch(TWO + MAIN + "let (y, b) = two(" + times("- ", 40) + "@x, c); tel");
        tooMuch(TWO + MAIN + "let (y, b) = two(x, " + times("not ", 40) + "@c); tel");
    }

    private static void notNested() {
        Check.sentence("3 nested more than 40 deep (in ( ), behind if, then, else, ->, fby, =>, UNARY's words)");
        for (String sign : new String[] {" + ", " - ", " * ", " div ", " mod "}) {
            Check.program(INT + "x" + times(sign + "x", 100) + "; tel");
            // Where one waits for its right side, it adds nothing to what is behind it.
            Check.program(INT + "x" + sign + times("(", DEEPEST) + "x" + times(")", DEEPEST) + "; tel");
            tooMuch(INT + "x" + sign + times("(", DEEPEST + 1) + "@x");
            Check.program(INT + times("(x" + sign, DEEPEST) + "x" + times(")", DEEPEST) + "; tel");
        }
        for (String sign : new String[] {" and ", " or ", " xor ", " = ", " <> "}) {
            Check.program(BOOL + "c" + sign + times("(", DEEPEST) + "c" + times(")", DEEPEST) + "; tel");
            tooMuch(BOOL + "c" + sign + times("(", DEEPEST + 1) + "@c");
        }
        for (String sign : new String[] {" < ", " <= ", " > ", " >= ", " = ", " <> "}) {
            Check.program(BOOL + "x" + sign + times("(", DEEPEST) + "x" + times(")", DEEPEST) + "; tel");
            tooMuch(BOOL + "x" + sign + times("(", DEEPEST + 1) + "@x");
        }
        Check.program(BOOL + "x + x * x < x - x div x and c or c xor c; tel");
        Check.faultyAt(INT.replace("y = ", "@y = ") + "x" + times(" when c", 100) + "; tel", 6);
    }

    private static void closedAgain() {
        Check.sentence("3 nested more than 40 deep");
        for (String[] way : WAYS) {
            boolean bool = way[2].equals("bool");
            String head = bool ? BOOL : INT;
            String inner = bool ? "c" : "x";
            String sign = bool ? " and " : " + ";
            String deep = "(" + times(way[0], DEEPEST - 1) + inner + times(way[1], DEEPEST - 1) + ")";
            // What has been closed no longer counts, however often.
            Check.program(head + deep + sign + deep + sign + deep + "; tel");
            Check.program(head + deep + " -> " + inner + "; tel");
            tooMuch(head + deep + sign + "(" + times(way[0], DEEPEST - 1) + way[3] + inner);
            tooMuch(head + deep + " -> (" + times(way[0], DEEPEST - 2) + way[3] + inner);
        }
        Check.program(INT + "f(" + times("- ", 39) + "x) + " + times("- ", 40) + "x -> " + times("- ", 39) + "x; tel");
        Check.program(TWO + G + MAIN + "let y = x; b = g(" + times("(", 39) + "x" + times(")", 39) + ", "
            + times("- ", 39) + "x, " + times("not ", 39) + "c); tel");
        Check.program(INT + "if " + times("not ", 39) + "c then " + times("- ", 39) + "x else " + times("- ", 39)
            + "x; tel");
        Check.program(INT + times("- ", 40) + "x; tel " + "node k(x: int) returns (y: int); let y = " + times("- ", 40)
            + "x; tel");
    }

    private static void variablesOfANode() {
        Check.sentence("3 a 100th VARIABLE of a NODE: where it stands");
        String first = "node m(";
        Check.same("99", Check.program(first + names("i", 98) + ": int) returns (y: int); let y = i97; tel").count(0),
            99);
        Check.same("98 outputs", Check.program(first + "x: int) returns (" + names("o", 98) + ": int); let "
            + equations("o", 98) + "tel").count(2), 98);
        Check.same("97 vars", Check.program(first + "x: int) returns (y: int); var " + names("v", 97)
            + ": int; let y = x; "
            + equations("v", 97) + "tel").count(0), 99);
        tooMuch(first + names("i", 99) + ", @j: int) returns (y: int); let y = x; tel");
        tooMuch(first + names("i", 99) + ": int; @j: int) returns (y: int); let y = x; tel");
        tooMuch(first + names("i", 99) + ": int) returns (@y: int); let y = x; tel");
        tooMuch(first + "x: int) returns (" + names("o", 98) + ", @p: int); let p = x; tel");
        tooMuch(first + "x: int) returns (" + names("o", 98) + ": int); var @v: int; let");
        tooMuch(first + "x: int) returns (y: int); var " + names("v", 97) + ", @w: int; let");
        tooMuch(first + "x: int) returns (y: int); var " + names("v", 97) + ": int; @w #");
        // Each node has its own.
        StreamNodes most = Check.program(F + first + names("i", 98) + ": int) returns (y: int); let y = f(i97); tel"
            + " node n(" + names("i", 98) + ": int) returns (y: int); let y = m(" + names("i", 98) + "); tel");
        most.input(97, -8);
        Check.values(most, 98, -8, -8);
        Check.same("about the last", most.about(98, 0), 1);
        Check.same("the last has the last input", most.causes(98, 97), true);
        Check.faultyAt(first + names("i", 99) + ", @i0: int)", 2);
        Check.faultyAt(first + names("i", 99) + ", @1: int)", 1);
        Check.faultyAt(first + names("i", 99) + ", @#", 1);
        Check.faultyAt(first + names("i", 99) + ": int) returns (@", 1);
    }

    private static String equations(String letter, int count) {
        StringBuilder text = new StringBuilder();
        for (int i = 0; i < count; i++) {
            text.append(letter).append(i).append(" = x; ");
        }
        return text.toString();
    }

    private static String nodes(int count) {
        StringBuilder text = new StringBuilder();
        for (int i = 0; i < count; i++) {
            text.append("node n").append(i).append("(x: int) returns (y: int); let y = x; tel ");
        }
        return text.toString();
    }

    private static void nodesOfAText() {
        Check.sentence("3 a 60th NODE (at its word node, ahead of all else): where it stands");
        for (int count : new int[] {1, 2, 58, 59}) {
            Check.same(count + " nodes", Check.program(nodes(count)).count(8), count);
        }
        // A chain of all 59, each called by the next.
        StringBuilder chain = new StringBuilder("node n0(x: int) returns (y: int); let y = x + (1 fby y); tel ");
        for (int i = 1; i < 59; i++) {
            chain.append("node n").append(i).append("(x: int) returns (y: int); let y = n").append(i - 1)
                .append("(x); tel ");
        }
        StreamNodes all = Check.program(chain.toString());
        Check.same("variables of a chain", all.count(3), 118);
        all.input(0, 3);
        Check.values(all, 1, 4, 7, 10);
        for (String sixtieth : new String[] {"node n59(x: int) returns (y: int); let y = x; tel", "node", "node #",
            "node n0", "node node", "node 1234567890", "node tel", "node(", "node n59(x: int) returns (y: int); let y"
            + " ="}) {
            tooMuch(nodes(59) + "@" + sixtieth);
        }
        for (String other : new String[] {"tel", "nodes", "Node", "1", "#", ";", "let"}) {
            Check.faultyAt(nodes(59) + "@" + other, 1);
        }
        tooMuch(nodes(59) + "@" + nodes(3));
        // Faults of earlier nodes are found earlier.
        Check.faultyAt(nodes(58) + "node m(x: int) returns (y: int); let @y = true; tel node k", 4);
        tooMuch(nodes(58) + "node m(x: int) returns (y: int); let y = y; tel @node k");
        tooMuch(nodes(58) + textOf(3001).replaceFirst("node main.*", "") + "@node main");
    }

    /** c0 on the base and each of c1 to c8 on the one before; h0 to h8 are ints beside them. */
    private static String clocks(int deep) {
        StringBuilder text = new StringBuilder("node m(c0: bool; h0: int) returns (y: int); var ");
        for (int i = 1; i <= deep; i++) {
            text.append("c").append(i).append(": bool when ").append(i % 3 == 0 ? "not c" : "c").append(i - 1)
                .append("; h").append(i).append(": int when not c").append(i - 1).append("; ");
        }
        return text.toString();
    }

    private static String clockEquations(int deep) {
        StringBuilder text = new StringBuilder("let y = h0; ");
        for (int i = 1; i <= deep; i++) {
            text.append("c").append(i).append(" = true; h").append(i).append(" = ").append(i).append("; ");
        }
        return text.toString();
    }

    private static void deepClocks() {
        Check.sentence("3 a C whose own CLOCK is 8 deep (BASE 0, on C 1 more than C's): where it stands");
        for (int deep = 1; deep <= 8; deep++) {
            StreamNodes nodes = Check.program(clocks(deep) + clockEquations(deep) + "tel");
            Check.same("C of the deepest", nodes.about(1 + 2 * deep, 2), deep == 1 ? 0 : 2 * deep - 1);
        }
        tooMuch(clocks(8) + "g: int when @c8; let");
        tooMuch(clocks(8) + "g: bool when not @c8; let");
        tooMuch(clocks(8) + "g, k: bool when @c8");
        Check.program(clocks(8) + "g: int when c7; " + clockEquations(8) + "g = 1; tel");
        // That it is no bool, or not known, is found first.
        Check.faultyAt(clocks(8) + "g: int when @h8; let", 2);
        Check.faultyAt(clocks(8) + "g: int when @c9; let", 2);
        Check.faultyAt(clocks(8) + "g: int when @1; let", 1);
    }

    private static void deepClocksInExpressions() {
        Check.sentence("3 a C whose own CLOCK is 8 deep: where it stands");
        String head = clocks(8) + clockEquations(8).replace("y = h0; ", "");
        tooMuch(head + "y = 1 when @c8; tel");
        tooMuch(head + "y = 1 when not @c8; tel");
        tooMuch(head + "y = h0 when c0 when @c8 #");
        Check.faultyAt(head + "y = 1 when @h8; tel", 2);
        Check.faultyAt(head + "@y = 1 when c7; tel", 6);
        Check.faultyAt(head + "@y = 1 when not c7; tel", 6);
        Check.program(head + "y = " + times("current ", 8) + "(1 when c7); tel");
        Check.faultyAt(head + "@y = " + times("current ", 7) + "(1 when c7); tel", 6);
        Check.faultyAt(head + "@y = " + times("current ", 9) + "(1 when c7); tel", 6);
    }
}
