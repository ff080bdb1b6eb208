/** CLOCKS and CAUSES: which clock each part of an expression has, where two do not go together, and what needs what. */
public final class ClockTest {
    private static final String NODES = "node f(a: int) returns (r: int); let r = a; tel"
        + " node k(a: int) returns (r: int); let r = pre a; tel"
        + " node g(a, e: int) returns (r: int); let r = a; tel"
        + " node two(a: int; b: bool) returns (r: int; s: bool); let r = a; s = b; tel ";
    /** b on the base, p and i on c, n and j on not c, q and l on p, which is on c. */
    private static final String VARS = "node m(c, d: bool; x: int) returns (y: int; b: bool); var p: bool when c; i:"
        + " int when c; n: bool when not c; j: int when not c; q: bool when p; l: int when p; o: int when d; ";
    private static final String REST = "p = true; i = 1; n = true; j = 2; q = true; l = 3; o = 4; ";
    private static final String[][] CLOCKS = {{"", "x", "c"}, {" when c", "i", "p"}, {" when not c", "j", "n"},
        {" when p", "l", "q"}, {" when d", "o", "true when d"}};

    private ClockTest() {
    }

    public static void main(String[] args) {
        anyGoesWithAll();
        partsOnOneClock();
        bothSides();
        when();
        current();
        calls();
        manyOutputs();
        declaredBefore();
        causesOfEach();
        causesOfClocks();
        causesOfCalls();
        noneMayBeItsOwn();
        Check.finish(ClockTest.class);
    }

    private static String text(String clock, String type, String right) {
        return NODES + VARS + "v: " + type + clock + "; let y = 1; b = c; " + REST + "@v = " + right + "; tel";
    }

    private static void fits(String clock, String type, String right) {
        Check.program(text(clock, type, right).replace("@", ""));
    }

    private static void odd(String clock, String type, String right) {
        Check.faultyAt(text(clock, type, right), 6);
    }

    /** Parts of two sides, with A and B in place of them; the last ones answer a bool. */
    private static final String[] OF_TWO = {"A + B", "A - B", "A * B", "A div B", "A mod B", "A -> B", "A fby B",
        "g(A, B)", "if true then A else B", "if A > 0 then B else 1", "if A = 0 then 1 else B",
        "if 1 < A then B else 7", "f(A) + k(B)", "- A + pre B", "A = B", "A <> B", "A < B", "A <= B", "A > B",
        "A >= B", "(A > 1) and (B < 2)", "A > 1 or B < 2", "A > 1 xor B < 2", "A > 1 => B < 2"};

    private static String type(String part) {
        boolean bool = part.matches("A (=|<>|<|<=|>|>=) .*|\\(A > 1\\).*");
        return bool ? "bool" : "int";
    }

    private static String with(String part, String a, String b) {
        return part.replace("A", a).replace("B", b);
    }

    private static void anyGoesWithAll() {
        Check.sentence("NUMBERS, true, false: ANY; its parts are on one CLOCK, ANY being any");
        for (String[] clock : CLOCKS) {
            fits(clock[0], "int", "7");
            fits(clock[0], "bool", "true");
            fits(clock[0], "bool", "false");
            for (String part : OF_TWO) {
                fits(clock[0], type(part), with(part, "1", "2"));
                fits(clock[0], type(part), with(part, "1", clock[1]));
                fits(clock[0], type(part), with(part, clock[1], "2"));
                fits(clock[0], type(part), with(part, clock[1], clock[1]));
                fits(clock[0], type(part), with(part, "(1 -> pre 2)", "f(" + clock[1] + ")"));
            }
        }
    }

    private static void partsOnOneClock() {
        Check.sentence("All else: its parts are on one CLOCK");
        for (String[] first : CLOCKS) {
            for (String[] second : CLOCKS) {
                if (first == second) {
                    continue;
                }
                for (String part : OF_TWO) {
                    odd(first[0], type(part), with(part, first[1], second[1]));
                    odd(second[0], type(part), with(part, first[1], second[1]));
                }
                odd(first[0], "int", "if " + second[2] + " then " + first[1] + " else 1");
            }
        }
        odd(" when c", "int", "if p then 1 else if c then 2 else 3");
        odd(" when c", "int", "i + (1 -> x)");
        odd(" when c", "int", "i + - - pre j");
    }

    private static void bothSides() {
        Check.sentence("Both sides of an EQUATION are on one CLOCK");
        for (String[] left : CLOCKS) {
            for (String[] right : CLOCKS) {
                for (String part : new String[] {"A", "- A", "pre A", "f(A)", "k(A)", "A + 1", "(A)", "1 fby A"}) {
                    if (left == right) {
                        fits(left[0], "int", part.replace("A", right[1]));
                    } else {
                        odd(left[0], "int", part.replace("A", right[1]));
                    }
                }
            }
        }
    }

    private static void when() {
        Check.sentence("e when C: e is on C's CLOCK, it is on C");
        fits(" when c", "int", "x when c");
        fits(" when not c", "int", "x when not c");
        fits(" when c", "int", "1 when c");
        fits(" when p", "int", "i when p");
        fits(" when p", "int", "1 when p");
        fits(" when not p", "int", "i when not p");
        fits(" when p", "int", "x when c when p");
        fits(" when not q", "int", "x when c when p when not q");
        odd(" when c", "int", "x when not c");
        odd(" when not c", "int", "x when c");
        odd("", "int", "x when c");
        odd(" when c", "int", "x when d");
        odd(" when p", "int", "x when p");
        odd(" when p", "int", "j when p");
        odd(" when p", "int", "l when p");
        odd(" when c", "int", "i when c");
        odd(" when c", "int", "x when c when c");
        odd(" when d", "int", "x when c when d");
        odd(" when p", "int", "x when not c when p");
        odd(" when p", "int", "(x when c) + 1 when c");
    }

    private static void current() {
        Check.sentence("current e: e is on C or not C (of what is ANY, or on BASE: FAULT 6), it on C's CLOCK");
        fits("", "int", "current i");
        fits("", "int", "current j");
        fits("", "int", "current o");
        fits(" when c", "int", "current l");
        fits("", "int", "current current l");
        fits("", "int", "current (1 when c)");
        fits(" when c", "int", "current (7 when p)");
        for (String none : new String[] {"x", "1", "(x + 1)", "(1 + 2)", "f(x)", "f(1)", "(pre 1)", "(1 -> 2)",
            "current i", "current current l", "y", "(if true then 1 else 2)"}) {
            for (String[] clock : CLOCKS) {
                odd(clock[0], "int", "current " + none);
            }
        }
        odd(" when c", "int", "current i");
        odd("", "int", "current l");
        odd(" when d", "int", "current l");
        odd(" when not c", "int", "current l");
        odd("", "bool", "current true");
        odd("", "int", "current current current l");
    }

    private static void calls() {
        Check.sentence("What is put in for a called NODE has its BASE on the CLOCK of the call; ANY becomes what is"
            + " around it");
        for (String[] clock : CLOCKS) {
            fits(clock[0], "int", "f(" + clock[1] + ")");
            fits(clock[0], "int", "f(1)");
            fits(clock[0], "int", "g(" + clock[1] + ", 1)");
            fits(clock[0], "int", "g(f(1), k(" + clock[1] + "))");
            fits(clock[0], "int", "f(1) + " + clock[1]);
        }
        odd("", "int", "f(i)");
        odd(" when c", "int", "g(i, x)");
        odd(" when c", "int", "g(f(x), 1)");
        odd(" when c", "int", "f(1) + x");
    }

    private static void manyOutputs() {
        Check.sentence("Both sides of an EQUATION are on one CLOCK");
        String head = NODES + "node m(c: bool; x: int) returns (y: int; b: bool); var h: int when c; i: bool when c;"
            + " j: int when not c; k: bool when not c; let ";
        Check.program(head + "(y, b) = two(x, c); (h, i) = two(x when c, true); (j, k) = two(1, false); tel");
        Check.faultyAt(head + "@(y, i) = two(x, c); (h, b) = two(1, c); j = 1; k = true; tel", 6);
        Check.faultyAt(head + "@(y, i) = two(1, true); (h, b) = two(1, true); j = 1; k = true; tel", 6);
        Check.faultyAt(head + "@(h, b) = two(1, true); (y, i) = two(1, true); j = 1; k = true; tel", 6);
        Check.faultyAt(head + "y = x; b = c; @(h, k) = two(1, true); j = 1; i = true; tel", 6);
        Check.faultyAt(head + "y = x; b = c; @(j, k) = two(x when c, true); h = 1; i = true; tel", 6);
        Check.faultyAt(head + "y = x; b = c; @(j, k) = two(x when c, c when not c); h = 1; i = true; tel", 6);
    }

    private static void declaredBefore() {
        Check.sentence("a var on that of its GROUP (C is declared before it)");
        String head = "node m(c: bool) returns (y: int; b: bool); var ";
        Check.program(head + "v: int when b; w: int when not c; let y = 1; b = c; v = 1; w = 2; tel");
        Check.program(head + "v: bool; w: int when v; let y = 1; b = c; v = c; w = 2; tel");
        Check.faultyAt(head + "w: int when @v; v: bool; let y = 1; b = c; v = c; w = 2; tel", 2);
        Check.faultyAt(head + "v: bool when @v; let y = 1; b = c; v = c; tel", 2);
        Check.faultyAt(head + "v, w: bool when @v; let y = 1; b = c; v = c; w = c; tel", 2);
        Check.faultyAt(head + "v, w: bool when not @w; let y = 1; b = c; v = c; w = c; tel", 2);
        Check.faultyAt(head + "v: bool when @y; let y = 1; b = c; v = c; tel", 2);
        // An expression may take any bool, wherever it is declared.
        Check.program(head + "v: int; w: bool; let v = current (1 when w); y = 1; b = c; w = c; tel");
    }

    private static void causes(String text, String names, String... due) {
        StreamNodes nodes = Check.program(text);
        for (String row : due) {
            int a = names.indexOf(row.charAt(0));
            for (int b = 0; b < names.length(); b++) {
                boolean has = row.indexOf(names.charAt(b)) >= 0;
                Check.same(row.charAt(0) + " has " + names.charAt(b) + " in " + text, nodes.causes(a, b), has);
            }
        }
    }

    private static void causesOfEach() {
        Check.sentence("CAUSES: all that stand in its EXPRESSION, but what is within pre (and behind fby), and the C"
            + " of its CLOCK, of each when and current there");
        String[][] rows = {{"1", ""}, {"x", "x"}, {"x + z", "xz"}, {"- x", "x"}, {"x * (z + 1)", "xz"}, {"pre x", ""},
            {"pre x + z", "z"}, {"pre (x + z)", ""}, {"pre pre x", ""}, {"x -> z", "xz"}, {"1 -> pre x", ""},
            {"pre x -> z", "z"}, {"x fby z", "x"}, {"pre x fby z", ""}, {"x fby z + z", "x"}, {"(x fby z) + z", "xz"},
            {"1 fby x fby z", ""}, {"(x fby z) fby w", "x"}, {"if c then x else z", "cxz"},
            {"if pre c then x else 1", "x"}, {"if c and not d then 1 else 2", "cd"}, {"if x = z then 1 else 2", "xz"},
            {"if true => c then 1 else 2", "c"}, {"current (x when c)", "cx"}, {"current (1 when c)", "c"},
            {"current (1 when not c)", "c"}, {"pre current (x when c)", ""}, {"1 fby current (x when c)", ""},
            {"current (x when c) fby z", "cx"}, {"current pre (x when c)", "c"}, {"current ((pre x) when c)", "c"},
            {"current ((x fby z) when d)", "dx"}, {"current (if p then x when c else 1)", "cpx"},
            {"current current (l + 0)", "clp"}, {"current current (1 when p)", "cp"}, {"pre current current l", ""},
            {"x + pre y", "x"}};
        String head = "node m(c, d: bool; x, z, w: int) returns (y: int); var p: bool when c; l: int when p; let p ="
            + " true; l = 5; y = ";
        for (String[] row : rows) {
            causes(head + row[0] + "; tel", "cdxzwypl", "y" + row[1], "c", "d", "x", "z", "w", "pc", "lpc");
        }
    }

    private static void causesOfClocks() {
        Check.sentence("CAUSES: the C of its CLOCK");
        causes("node m(c, d: bool; x: int) returns (y: int); var h: int when c; e: bool when not c; k: int when e; l:"
            + " int when d; let y = x; h = 1; e = false; k = pre k; l = 0 fby l; tel", "cdxyhekl", "hc", "ec", "kec",
            "ld", "yx");
        // C has causes of its own.
        causes("node m(c: bool; x: int) returns (y: int); var d: bool; h: int when d; e: bool when d; k: int when e;"
            + " let y = 1; d = x > 0; h = 2; e = c when d; k = 3; tel", "cxydhek", "dx", "hdx", "edxc", "kedxc", "y");
    }

    private static void causesOfCalls() {
        Check.sentence("what a call answers has the called NODE's output as CAUSE, its inputs have their EXPRESSIONS'");
        String[][] rows = {{"f(x)", "x"}, {"k(x)", ""}, {"g(x, z)", "x"}, {"g(z, x)", "z"}, {"g(k(x), z)", ""},
            {"g(f(x), k(z))", "x"}, {"f(pre x)", ""}, {"pre f(x)", ""}, {"f(x) + k(z)", "x"}, {"f(1)", ""},
            {"1 fby f(x)", ""}, {"f(x) fby z", "x"}, {"current f(x when c)", "cx"}, {"current f(1 when c)", "c"},
            {"current k(x when c)", "c"}, {"current g(1, x when c)", "c"}, {"f(current (x when c))", "cx"},
            {"pre current f(x when c)", ""}, {"u(x)", "x"}, {"current u(x when d)", "dx"}, {"t(x)", "x"}};
        String inner = NODES + "node u(a: int) returns (r: int); var e: bool; h: int when e; let e = a > 0; h = 1; r"
            + " = current h; tel node t(a: int) returns (r: int); var s: int; let r = f(g(s, pre r)); s = u(f(a));"
            + " tel ";
        for (String[] row : rows) {
            causes(inner + "node m(c, d: bool; x, z: int) returns (y: int); let y = " + row[0] + "; tel", "cdxzy",
                "y" + row[1]);
        }
        causes(NODES + "node m(c: bool; x: int) returns (y: int; b: bool); let (y, b) = two(x, c); tel", "cxyb", "yx",
            "bc");
        causes(NODES + "node m(c: bool; x: int) returns (y: int); var h: int when c; i: bool when c; let y = x; (h,"
            + " i) = two(x when c, true); tel", "cxyhi", "hcx", "ic");
        causes(NODES + "node m(c: bool; x: int) returns (y: int); var h: int when c; let y = x; h = f(1); tel", "cxyh",
            "hc");
    }

    private static void noneMayBeItsOwn() {
        Check.sentence("None may be among its CAUSES' CAUSES");
        String head = NODES + "node m(c: bool; x: int) returns (y: int); var b: bool; i: int when c; h: int when b;"
            + " z: int; let i = 1; h = 2; ";
        for (String right : new String[] {"y", "- y", "y + 1", "if c then y else 1", "if y > 0 then 1 else 2",
            "y fby x", "y -> 1", "1 -> y", "f(y)", "g(y, x)", "current (y when c)", "current (i + (y when c))",
            "f(f(y))", "z", "g(k(1), 2) + z", "current f(y when c)"}) {
            Check.faultyAt(head + "b = c; z = y; @y = " + right + "; tel", 7);
        }
        for (String right : new String[] {"pre y", "pre f(y)", "f(pre y)", "k(y)", "1 fby y", "1 fby z", "pre z + x",
            "pre current (y when c)", "g(x, y)", "g(1, z)", "current pre (y when c)"}) {
            Check.program(head + "b = c; z = y; y = " + right + "; tel");
        }
        // By the C of a clock, of a when and of a current.
        String y = "z = 1; y = 1; @b = ";
        for (String right : new String[] {"current (true when b)", "current (c when not b)", "(current h) > 1",
            "current (pre true when b)", "f(current h) > 1", "current ((x > 0) when b)", "current (f(1 when b) > 0)"}) {
            Check.faultyAt(head + y + right + "; tel", 7);
        }
        for (String right : new String[] {"pre current (true when b)", "true fby current (c when b)",
            "k(current h) > 1"}) {
            Check.program(head + y.replace("@", "") + right + "; tel");
        }
    }
}
