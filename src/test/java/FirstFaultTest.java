/** FAULTS, the first that is found: of two in one text, each pair of kinds in each order. A @ marks each place. */
public final class FirstFaultTest {
    private static final String F = "node f(a: int) returns (r: int); let r = a; tel ";
    private static final String TWO = "node two(a: int; b: bool) returns (r: int; s: bool); let r = a; s = b; tel ";
    private static final String HEAD = "(c: bool; x: int) returns (NAMES: int); let ";
    private static final String DEEP = "- ".repeat(41);
    private static final String HIGH = "x" + " + x".repeat(200);

    /** Right sides of an int's equation that are at fault where they are marked: found while they are read. */
    private static final String[][] READ = {{"1", "1 @2"}, {"1", "@#"}, {"1", "x + @"}, {"1", "x + @+ x"},
        {"1", "@1234567890"}, {"1", "(x@"}, {"2", "@none"}, {"2", "@f"}, {"2", "@x(1)"}, {"2", "x when @x"},
        {"2", "x when @none"}, {"3", DEEP + "@x"}, {"3", HIGH + " @"}};
    /** Those that are found at the node's end, whose place is where the equation begins. */
    private static final String[][] CHECKED = {{"4", "true"}, {"4", "x + c"}, {"4", "f(c)"},
        {"4", "if x then 1 else 2"}, {"5", "f(1, 2)"}, {"5", "two(1, c)"}, {"5", "two(1)"}, {"6", "x when c"},
        {"6", "current x"}, {"6", "x + (x when c)"}};

    private FirstFaultTest() {
    }

    public static void main(String[] args) {
        alone();
        readThenAny();
        checkedThenRead();
        checkedThenChecked();
        endOfNode();
        byEquations();
        withinAnEquation();
        tellsOfCalls();
        nodesInTheirOrder();
        ahead();
        sizesAndCauses();
        firstAsPutIn();
        firstAsPutInOfCalls();
        placeOfTheEquation();
        Check.finish(FirstFaultTest.class);
    }

    private static String node(String name, String outputs, String body) {
        return "node " + name + HEAD.replace("NAMES", outputs) + body + " tel ";
    }

    private static String good(String name) {
        return name + " = x;";
    }

    private static String read(String name, String[] fault, boolean marked) {
        String right = marked ? fault[1] : fault[1].replace("@", "");
        return name + " = " + right + ";";
    }

    private static String checked(String name, String[] fault, boolean marked) {
        return (marked ? "@" : "") + name + " = " + fault[1] + ";";
    }

    private static void due(String text, String fault) {
        Check.faultyAt(F + TWO + text, Integer.parseInt(fault));
    }

    private static void alone() {
        Check.sentence("1 ..., 2 ..., 3 ...: where it stands; 4, 5, 6: the place where each begins");
        for (String[] fault : READ) {
            due(node("m", "p", read("p", fault, true)), fault[0]);
            due(node("m", "p, q", good("q") + read("p", fault, true)), fault[0]);
        }
        for (String[] fault : CHECKED) {
            due(node("m", "p", checked("p", fault, true)), fault[0]);
            due(node("m", "p, q", good("q") + checked("p", fault, true)), fault[0]);
        }
    }

    private static void readThenAny() {
        Check.sentence("FAULTS, the first that is found: from left to right");
        for (String[] first : READ) {
            for (String[] second : READ) {
                due(node("m", "p, q", read("p", first, true) + read("q", second, false)), first[0]);
            }
            for (String[] second : CHECKED) {
                due(node("m", "p, q", read("p", first, true) + checked("q", second, false)), first[0]);
            }
        }
    }

    private static void checkedThenRead() {
        Check.sentence("FAULTS: from left to right 1, 2, 3; at a NODE's end 4, 5, 6");
        for (String[] first : CHECKED) {
            for (String[] second : READ) {
                due(node("m", "p, q", checked("p", first, false) + read("q", second, true)), second[0]);
            }
        }
    }

    private static void checkedThenChecked() {
        Check.sentence("Then by EQUATIONS, the place where each begins: 4, 5, 6");
        for (String[] first : CHECKED) {
            for (String[] second : CHECKED) {
                due(node("m", "p, q", checked("p", first, true) + checked("q", second, false)), first[0]);
                // By their order in the text, not by that of the variables.
                due(node("m", "p, q", checked("q", first, true) + checked("p", second, false)), first[0]);
            }
        }
    }

    private static void endOfNode() {
        Check.sentence("At a NODE's end, its tel being the place: 2 an output or var without EQUATION, or with two (or"
            + " twice on the left of one)");
        String vars = "node m(c: bool; x: int) returns (p: int); var v: int; let ";
        for (String body : new String[] {"p = x;", "v = x;", "p = x; v = x; p = 1;", "p = x; v = x; v = 1;",
            "p = 1; p = 2;", "v = x; p = x; p = x; p = x;", "(p, p) = two(x, c); v = x;", "(v, v) = two(x, c); p = x;",
            "(p, v) = two(x, c); v = 1;"}) {
            due(vars + body + " @tel", "2");
            due(vars + body + " @tel #", "2");
            due(vars + body + " @tel node", "2");
        }
        for (String[] fault : CHECKED) {
            due(node("m", "p, q", checked("p", fault, false)).replace("tel", "@tel"), "2");
            due(node("m", "p", checked("p", fault, false) + "p = x;").replace("tel", "@tel"), "2");
        }
        for (String[] fault : READ) {
            due(node("m", "p, q", read("p", fault, true)), fault[0]);
            due(node("m", "p, q", good("q") + good("q") + read("p", fault, true)), fault[0]);
        }
    }

    private static void byEquations() {
        Check.sentence("in each first 4 and 5, then 6 likewise");
        for (String[] first : CHECKED) {
            for (String[] second : CHECKED) {
                String both = "if c then (" + first[1] + ") else (" + second[1] + ")";
                due(node("m", "p", "@p = " + both + ";"), ofBoth(first, second));
            }
        }
    }

    private static String ofBoth(String[] first, String[] second) {
        for (String[] one : new String[][] {first, second}) {
            if (!one[0].equals("6") && !one[1].equals("true")) {
                return one[0];
            }
        }
        // A true is no fault within itself, but for the if around it or the left side.
        return first[1].equals("true") || second[1].equals("true") ? "4" : "6";
    }

    private static void withinAnEquation() {
        Check.sentence("in each first 4 and 5 (from the left, what is inside first; ...; then the left side)");
        String[][] rows = {{"c + f(1, 2)", "5"}, {"(c + 1) + f(1, 2)", "4"}, {"f(1, 2) + (c + 1)", "5"},
            {"f(c + 1, 2)", "4"}, {"f(f(1, 2), c + 1)", "5"}, {"f(c + 1, f(1, 2))", "4"}, {"- f(f(1, 2))", "5"},
            {"f(f(c), f(1, 2))", "4"}, {"if 1 then f(1, 2) else 3", "5"}, {"if not 1 then f(1, 2) else 3", "4"},
            {"c -> f(1, 2)", "5"}, {"(not 1) = f(1, 2)", "4"}, {"two(1, c) + c", "5"}, {"c + two(1, c)", "5"},
            {"f(c) + two(1, c)", "4"}, {"(x when c) + c", "4"}, {"f(x when c, 1)", "5"}, {"current (x + c)", "4"},
            {"current current f(1, 2)", "5"}, {"f(x when c) and x", "4"}};
        for (String[] row : rows) {
            due(node("m", "p", "@p = " + row[0] + ";"), row[1]);
        }
        // The left side: its type comes after all types, and ahead of all clocks.
        String bool = "node m(c: bool; x: int) returns (b: bool); let @b = ";
        due(bool + "f(1, 2); tel", "5");
        due(bool + "x when c; tel", "4");
        due(bool + "current x; tel", "4");
        due(bool + "c when c; tel", "6");
        due(bool + "x + x; tel", "4");
    }

    private static void tellsOfCalls() {
        Check.sentence("5 a call with other numbers of inputs or outputs; 5 before 4 of one call; then the left side");
        String head = "node m(c: bool; x: int) returns (p: int; b: bool); let ";
        String[][] rows = {{"@(p, b) = two(c, 1, 2);", "5"}, {"@(p, b) = two(c);", "5"}, {"@(p, b) = two(c, 1);", "4"},
            {"@(p, b) = two(x, 1);", "4"}, {"@(p, b) = two(c, c);", "4"}, {"@(b, p) = two(x, c);", "4"},
            {"@(p, b) = f(c);", "5"}, {"@(p, b) = f(x);", "5"}, {"@(p) = two(c, c); b = c;", "5"},
            {"@p = two(c, c); b = c;", "5"}, {"@p = f(c, c); b = c;", "5"}, {"@p = f(c); b = c;", "4"},
            {"@(p, b) = two(f(c), 1, 2);", "4"}, {"@(p, b) = two(f(1, 2), 1);", "5"}, {"@(b) = f(x); p = x;", "4"},
            {"@(p, b) = two(x when c, c);", "6"}, {"@(b, p) = two(x when c, c);", "4"},
            {"@(p, b) = two(x when c);", "5"}};
        for (String[] row : rows) {
            due(head + row[0] + " tel", row[1]);
        }
    }

    private static void nodesInTheirOrder() {
        Check.sentence("At a NODE's end ...");
        String[] seconds = {node("n", "p", "p = #;"), node("n", "p", "p = none;"), node("n", "p", "p = true;"),
            node("n", "p", "p = f(1, 2);"), node("n", "p", "p = x when c;"), node("n", "p, q", "p = x;"), "node m",
            "#"};
        for (String second : seconds) {
            for (String[] first : READ) {
                due(node("m", "p", read("p", first, true)) + second, first[0]);
            }
            for (String[] first : CHECKED) {
                due(node("m", "p", checked("p", first, true)) + second, first[0]);
            }
            due(node("m", "p, q", good("p")).replace("tel", "@tel") + second, "2");
        }
    }

    private static void ahead() {
        Check.sentence("2 a NAME that is not known, is declared already, is none that may stand there");
        due("node @f #", "2");
        due("node m(x, @x #", "2");
        due("node m(x: int) returns (@x #", "2");
        due("node m(x: int) returns (y: int); let @z #", "2");
        due("node m(x: int) returns (y: int); let @x #", "2");
        due("node m(x: int) returns (y: int); let (@x #", "2");
        due("node m(x: int) returns (y: int); let (y) = @y #", "2");
        due("node m(x: int) returns (y: int); let y = @m(x); tel", "2");
        due("node m(x: int) returns (y: int); var v: int when @x #", "2");
        due("node m(x: int) returns (y: int); var v: bool when @v #", "2");
        due("node m(x: int) returns (y: int); var v: bool when not @w; w: bool; let", "2");
        due("node m(c: bool) returns (y: int); var v: bool; let y = 1; v = c when @y #", "2");
    }

    private static final String SUM = "node s(a: int) returns (r: int); let r = a" + " + a".repeat(190) + "; tel ";

    /** More than 3,000 parts, as s is put in eight times. */
    private static String large(String name) {
        return name + " = s(x)" + " + s(x)".repeat(7) + ";";
    }

    private static void sizesAndCauses() {
        Check.sentence("With the TEXT's end (its length is the place): 3 PARTS or VARIABLES; 7 a VARIABLE that is its"
            + " own CAUSE");
        Check.faultyAt(SUM + node("m", "p, q", large("p") + "q = q;") + "@", 3);
        Check.faultyAt(SUM + node("m", "p", large("p")) + " -- \n@", 3);
        Check.faultyAt(SUM + node("m", "p", large("p")) + node("n", "p", "p = m(c, x);") + "@", 3);
        due(node("m", "p", "@p = p;") + " -- \n", "7");
        due(node("m", "p", "@p = p;") + node("n", "p", "p = m(c, x);"), "7");
        for (String second : new String[] {"@#", "@tel", "@node2", "node @m", node("n", "p", "p = @none;"),
            node("n", "p", "p = x @x;")}) {
            String fault = second.contains("@m") || second.contains("@none") ? "2" : "1";
            due(SUM + node("m", "p", "p = p;") + second, fault);
            due(SUM + node("m", "p", large("p")) + second, fault);
        }
        for (String[] second : CHECKED) {
            due(SUM + node("m", "p, q", "p = p;" + checked("q", second, true)), second[0]);
            due(SUM + node("m", "p, q", large("p") + checked("q", second, true)), second[0]);
            due(SUM + node("m", "p", "p = p;") + node("n", "p", checked("p", second, true)), second[0]);
            due(SUM + node("m", "p", large("p")) + node("n", "p", checked("p", second, true)), second[0]);
        }
        // What is not called is not put in: neither its circles nor its parts are there.
        Check.program(SUM + node("m", "p", "p = p;") + node("k", "p", large("p")) + node("n", "p", "p = x;"));
    }

    private static void firstAsPutIn() {
        Check.sentence("7 a VARIABLE that is its own CAUSE: of several the first as PUT IN");
        due(node("m", "p, q", "@p = p; q = q;"), "7");
        due(node("m", "p, q", "q = q; @p = p;"), "7");
        due(node("m", "p, q, r", "r = q; q = r; @p = p;"), "7");
        due(node("m", "p, q, r", "r = q; @q = r; p = q;"), "7");
        due(node("m", "p, q, r", "r = p; q = r; @p = q;"), "7");
        due(node("m", "p, q, r", "r = q; q = p; @p = r + q;"), "7");
        due("node m(c: bool; x: int) returns (p: int); var v, w: int; let w = v; @v = w; p = v; tel", "7");
        due("node m(c: bool; x: int) returns (p: int); var v, w: int; let w = p; v = v; @p = w; tel", "7");
    }

    private static void firstAsPutInOfCalls() {
        Check.sentence("PUT IN: the MAIN's VARIABLES; for each EQUATION in the order of the TEXT, for each call in"
            + " it, from the left (those within the EXPRESSIONS of a call before it), and so on, before the next call");
        String plain = "node NAME(a: int) returns (r: int); var v: int; let MARKv = v; r = a; tel ";
        String g = plain.replace("NAME", "g");
        String h = plain.replace("NAME", "h");
        firstOf(g, h, "p = g(x) + h(x);", true);
        firstOf(g, h, "p = h(x) + g(x);", false);
        firstOf(g, h, "p = g(h(x));", false);
        firstOf(g, h, "p = h(g(x));", true);
        firstOf(g, h, "p = pre g(x) + h(x);", true);
        firstOf(g, h, "p = if h(x) > 0 then g(x) else 1;", false);
        firstOf(g, h, "p = f(g(x)) + h(x);", true);
        // The main's own ones come first, wherever their equation stands.
        String text = node("m", "p, q", "q = g(x); @p = p;");
        due(g.replace("MARK", "") + text, "7");
        // Equations in the order of the text, not of the variables.
        String inOrder = node("m", "p, q", "q = h(x); p = g(x);");
        due(g.replace("MARK", "") + h.replace("MARK", "@") + inOrder, "7");
        // What a called node calls is put in before the next call, but behind that node's own variables.
        String k = "node k(a: int) returns (r: int); let r = h(a); tel ";
        due(g.replace("MARK", "") + h.replace("MARK", "@") + k + node("m", "p", "p = k(x) + g(x);"), "7");
        due(g.replace("MARK", "@") + h.replace("MARK", "") + k + node("m", "p", "p = g(x) + k(x);"), "7");
        String own = "node k(a: int) returns (r: int); var v: int; let r = h(a); @v = v; tel ";
        due(h.replace("MARK", "") + own + node("m", "p", "p = k(x);"), "7");
    }

    private static void firstOf(String g, String h, String body, boolean isG) {
        due(g.replace("MARK", isG ? "@" : "") + h.replace("MARK", isG ? "" : "@") + node("m", "p", body), "7");
    }

    private static void placeOfTheEquation() {
        Check.sentence("its place that of its EQUATION's beginning (of a called NODE's input: of the EQUATION in"
            + " which the call stands)");
        due(node("m", "p", "\n  @p = 1 + p;"), "7");
        due("node m(c: bool; x: int) returns (p: int; b: bool); let @(p, b) = two(p, c); tel", "7");
        due("node m(c: bool; x: int) returns (p: int; b: bool); let @(p, b) = two(x, b); tel", "7");
        due("node m(c: bool; x: int) returns (p: int; b: bool); let @(p, b) = two(if b then 1 else 2, p = 1); tel",
            "7");
        due(node("m", "p", "@p = f(p);"), "7");
        due(node("m", "p, q", "p = x; @q = f(f(q) + p);"), "7");
        due(node("m", "p, q", "q = f(p); @p = f(q);"), "7");
        due("node k(a: int) returns (r: int); let @r = f(r); tel " + node("m", "p", "p = k(x);"), "7");
        Check.program(F + node("m", "p, q", "p = f(q); q = pre f(p);"));
    }
}
