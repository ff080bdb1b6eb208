/** INSTANTS at their edges: the ends of int, division by 0, and the first instants of each clock. */
public final class InstantTest {
    private static final long NONE = 1L << 40;
    private static final int LOW = Integer.MIN_VALUE;
    private static final int HIGH = Integer.MAX_VALUE;
    private static final int[] EDGES = {LOW, LOW + 1, LOW / 2, -65536, -46341, -7, -2, -1, 0, 1, 2, 3, 7, 46341, 65536,
        HIGH / 2, HIGH - 1, HIGH};

    private InstantTest() {
    }

    public static void main(String[] args) {
        wrapping();
        wrappingStates();
        divAndMod();
        divByZeroGoesOn();
        comparing();
        baseIsAtEach();
        onClocks();
        clocksWithinClocks();
        pre();
        preOnClocks();
        arrow();
        arrowOnClocks();
        fby();
        fbyOnClocks();
        firstOfCalls();
        current();
        currentOfBools();
        currentWithinClocks();
        lastVariableAsClock();
        clockThatIsNeverOn();
        Check.finish(InstantTest.class);
    }

    /** Ticks with c as given by 0s and 1s and x as 1, 2, 3 ..., and looks at variable k. */
    private static void run(String text, String c, int k, long... due) {
        StreamNodes nodes = Check.program(text);
        for (int round = 0; round < 2; round++) {
            for (int i = 0; i < due.length; i++) {
                nodes.input(0, c.charAt(i) - '0');
                nodes.input(1, i + 1);
                nodes.tick(1);
                Check.same("value(" + k + ") at " + (i + 1) + " of " + text, nodes.value(k), due[i]);
            }
            // The first instants come again.
            nodes.restart();
        }
    }

    private static String main(String vars, String body) {
        return "node m(c: bool; x: int) returns (y: int); " + vars + " let " + body + " tel";
    }

    private static StreamNodes ofTwo(String type, String sign) {
        return Check.program("node m(a, b: int) returns (z: " + type + "); let z = a " + sign + " b; tel");
    }

    private static long of(StreamNodes nodes, int a, int b) {
        nodes.input(0, a);
        nodes.input(1, b);
        nodes.tick(1);
        return nodes.value(2);
    }

    private static void wrapping() {
        Check.sentence("int 32 bits, wrapping");
        StreamNodes sum = ofTwo("int", "+");
        StreamNodes difference = ofTwo("int", "-");
        StreamNodes product = ofTwo("int", "*");
        StreamNodes negated = Check.program("node m(a, b: int) returns (z: int); let z = - a; tel");
        for (int a : EDGES) {
            for (int b : EDGES) {
                Check.same(a + " + " + b, of(sum, a, b), wrapped((long) a + b));
                Check.same(a + " - " + b, of(difference, a, b), wrapped((long) a - b));
                Check.same(a + " * " + b, of(product, a, b), wrapped((long) a * b));
            }
            Check.same("- " + a, of(negated, a, 0), wrapped(-(long) a));
        }
    }

    private static long wrapped(long number) {
        long low = number & 0xffffffffL;
        return low > HIGH ? low - (1L << 32) : low;
    }

    private static void wrappingStates() {
        Check.sentence("int 32 bits, wrapping");
        Check.values(Check.program("node m(x: int) returns (y: int); let y = 999999999 fby y + 999999999; tel"), 1,
            999999999, 1999999998, -1294967299, -294967300, 705032699);
        Check.values(Check.program("node m(x: int) returns (y: int); let y = 3 -> pre y * pre y; tel"), 1, 3, 9, 81,
            6561, 43046721, -501334399);
    }

    private static void divAndMod() {
        Check.sentence("a div b, a mod b: towards 0, with the sign of a; 0 if b is 0 (-2^31 div -1 is -2^31, mod 0)");
        StreamNodes div = ofTwo("int", "div");
        StreamNodes mod = ofTwo("int", "mod");
        for (int a : EDGES) {
            for (int b : EDGES) {
                long size = b == 0 ? 0 : Math.abs((long) a) / Math.abs((long) b);
                long quotient = (a < 0) == (b < 0) ? size : -size;
                Check.same(a + " div " + b, of(div, a, b), wrapped(quotient));
                long rest = b == 0 ? 0 : Math.abs((long) a) % Math.abs((long) b);
                Check.same(a + " mod " + b, of(mod, a, b), a < 0 ? -rest : rest);
            }
        }
        Check.same("-2^31 div -1", of(div, LOW, -1), LOW);
        Check.same("-2^31 mod -1", of(mod, LOW, -1), 0);
        Check.same("-2^31 div 0", of(div, LOW, 0), 0);
        Check.same("-2^31 mod 0", of(mod, LOW, 0), 0);
        Check.same("-7 div 2", of(div, -7, 2), -3);
        Check.same("-7 mod 2", of(mod, -7, 2), -1);
        Check.same("7 div -2", of(div, 7, -2), -3);
        Check.same("7 mod -2", of(mod, 7, -2), 1);
    }

    private static void divByZeroGoesOn() {
        Check.sentence("0 if b is 0");
        // Where no value is asked for, off its clock and in what is not chosen, 0 divides nothing, either.
        run(main("var h: int when c;", "h = (7 div x - 2) when c; y = if x = 0 then 1 else 7 div (x - x);"), "0101", 2,
            0, 0, 0, 0);
        run(main("var h: int when c;", "h = (8 div (x - 2)) when c; y = 7 mod 0 + 7 div 0;"), "0111", 3, NONE, 0, 8, 4);
        run(main("var h: int when c;", "h = (x when c) div (0 when c); y = current h;"), "0110", 2, 0, 0, 0, 0);
    }

    private static void comparing() {
        Check.sentence("int 32 bits (= <> < <= > >= as their signs say)");
        String[] signs = {"=", "<>", "<", "<=", ">", ">="};
        for (int i = 0; i < signs.length; i++) {
            StreamNodes nodes = ofTwo("bool", signs[i]);
            for (int a : EDGES) {
                for (int b : EDGES) {
                    boolean[] due = {a == b, a != b, a < b, a <= b, a > b, a >= b};
                    Check.same(a + " " + signs[i] + " " + b, of(nodes, a, b), due[i] ? 1 : 0);
                }
            }
        }
    }

    private static void baseIsAtEach() {
        Check.sentence("BASE is at each");
        run(main("", "y = x;"), "000000", 2, 1, 2, 3, 4, 5, 6);
        run(main("", "y = x;"), "000000", 0, 0, 0, 0, 0, 0, 0);
        run(main("", "y = 7;"), "0101", 2, 7, 7, 7, 7);
    }

    private static void onClocks() {
        Check.sentence("C (not C) at those of C's CLOCK where C is true (false)");
        String text = main("var h: int when c; k: int when not c; t: int when c;",
            "h = x when c; k = x when not c; t = 5;"
            + " y = x;");
        run(text, "011001", 3, NONE, 2, 3, NONE, NONE, 6);
        run(text, "011001", 4, 1, NONE, NONE, 4, 5, NONE);
        run(text, "011001", 5, NONE, 5, 5, NONE, NONE, 5);
        run(text, "000", 3, NONE, NONE, NONE);
        run(text, "111", 4, NONE, NONE, NONE);
    }

    private static void clocksWithinClocks() {
        Check.sentence("C (not C) at those of C's CLOCK");
        // e is true at even x, and stays what it was where c is false.
        String vars = "var e: bool when c; h: int when e; k: int when not e;";
        String body = "e = (x mod 2 = 0) when c; h = x when c when e; k = x when c when not e; y = x;";
        String c = "0110110";
        run(main(vars, body), c, 3, NONE, 1, 0, NONE, 0, 1, NONE);
        run(main(vars, body), c, 4, NONE, 2, NONE, NONE, NONE, 6, NONE);
        run(main(vars, body), c, 5, NONE, NONE, 3, NONE, 5, NONE, NONE);
        // Within not c, where c's being false does not make e false.
        vars = vars.replace("bool when c", "bool when not c");
        body = body.replace("when c", "when not c");
        run(main(vars, body), c, 4, NONE, NONE, NONE, 4, NONE, NONE, NONE);
        run(main(vars, body), c, 5, 1, NONE, NONE, NONE, NONE, NONE, 7);
    }

    private static void pre() {
        Check.sentence("pre e: that of e at the INSTANT before; at the first one 0 or false");
        run(main("", "y = pre x;"), "0000", 2, 0, 1, 2, 3);
        run(main("", "y = pre pre x;"), "0000", 2, 0, 0, 1, 2);
        run(main("", "y = pre (x + 5);"), "0000", 2, 0, 6, 7, 8);
        run(main("", "y = pre x + 5;"), "0000", 2, 5, 6, 7, 8);
        run(main("", "y = pre 7;"), "000", 2, 0, 7, 7);
        run(main("var b: bool;", "b = pre c; y = x;"), "1011", 3, 0, 1, 0, 1);
        run(main("var b: bool;", "b = pre not c; y = x;"), "1011", 3, 0, 0, 1, 0);
        run(main("var b: bool;", "b = not pre c; y = x;"), "1011", 3, 1, 0, 1, 0);
        run(main("var b: bool;", "b = pre true; y = x;"), "000", 3, 0, 1, 1);
    }

    private static void preOnClocks() {
        Check.sentence("pre e: that of e at the INSTANT before, of their CLOCK; at the first one 0 or false");
        run(main("var h: int when c;", "h = pre (x when c); y = x;"), "0110011", 3, NONE, 0, 2, NONE, NONE, 3, 6);
        run(main("var h: int when not c;", "h = pre (x when not c); y = x;"), "1001100", 3, NONE, 0, 2, NONE, NONE, 3,
            6);
        // Of what was at the instant before of the clock, not of the base.
        run(main("var h: int when c;", "h = (pre x) when c; y = x;"), "0110011", 3, NONE, 1, 2, NONE, NONE, 5, 6);
        run(main("var b: bool when c;", "b = pre ((x > 2) when c); y = x;"), "0110011", 3, NONE, 0, 0, NONE, NONE, 1,
            1);
        run(main("var e: bool when c; h: int when e;", "e = (x mod 2 = 0) when c; h = pre (x when c when e); y = x;"),
            "01110101", 4, NONE, 0, NONE, 2, NONE, 4, NONE, 6);
    }

    private static void arrow() {
        Check.sentence("a -> b: a at the first INSTANT of its CLOCK, later b");
        run(main("", "y = 10 -> x;"), "0000", 2, 10, 2, 3, 4);
        run(main("", "y = x -> 10;"), "0000", 2, 1, 10, 10, 10);
        run(main("", "y = 10 -> 20 -> x;"), "0000", 2, 10, 2, 3, 4);
        run(main("", "y = (10 -> 20) -> x;"), "0000", 2, 10, 2, 3, 4);
        run(main("", "y = 10 -> pre (20 -> x);"), "0000", 2, 10, 20, 2, 3);
        run(main("var b: bool;", "b = true -> false; y = x;"), "000", 3, 1, 0, 0);
        run(main("var b: bool;", "b = c -> not c; y = x;"), "110", 3, 1, 0, 1);
    }

    private static void arrowOnClocks() {
        Check.sentence("a -> b: a at the first INSTANT of its CLOCK, later b");
        run(main("var h: int when c;", "h = 10 -> x when c; y = x;"), "0010110", 3, NONE, NONE, 10, NONE, 5, 6, NONE);
        run(main("var h: int when not c;", "h = 10 -> x when not c; y = x;"), "1101001", 3, NONE, NONE, 10, NONE, 5, 6,
            NONE);
        run(main("var h: int when c;", "h = (10 -> x) when c; y = x;"), "0010110", 3, NONE, NONE, 3, NONE, 5, 6, NONE);
        run(main("var h: int when c;", "h = (10 -> x) when c; y = x;"), "1010110", 3, 10, NONE, 3, NONE, 5, 6, NONE);
        run(main("var e: bool when c; h: int when e;", "e = (x > 3) when c; h = 10 -> 20; y = x;"), "0110101", 4, NONE,
            NONE, NONE, NONE, 10, NONE, 20);
        // Two clocks have a first instant each.
        run(main("var h: int when c; k: int when not c;", "h = 1 -> 2; k = 1 -> 2; y = current h * 10 + current k;"),
            "0010110", 2, 1, 2, 12, 12, 22, 22, 22);
    }

    private static void fby() {
        Check.sentence("a fby b: a -> pre b");
        run(main("", "y = 10 fby x;"), "0000", 2, 10, 1, 2, 3);
        run(main("", "y = x fby 10;"), "0000", 2, 1, 10, 10, 10);
        run(main("", "y = 10 fby 20 fby x;"), "0000", 2, 10, 20, 1, 2);
        run(main("", "y = (10 fby 20) fby x;"), "0000", 2, 10, 1, 2, 3);
        run(main("", "y = x + 10 fby x + 20;"), "0000", 2, 11, 21, 22, 23);
        run(main("var b: bool;", "b = true fby c; y = x;"), "0101", 3, 1, 0, 1, 0);
        for (String right : new String[] {"x", "x * x", "10 fby x", "pre x", "7 -> x"}) {
            StreamNodes nodes = Check.program(main("var z: int;", "y = 3 fby " + right + "; z = 3 -> pre (" + right
                + ");"));
            for (int i = 0; i < 5; i++) {
                nodes.input(1, 5 - i);
                nodes.tick(1);
                Check.same("3 fby " + right, nodes.value(2), nodes.value(3));
            }
        }
    }

    private static void fbyOnClocks() {
        Check.sentence("a fby b: a -> pre b");
        run(main("var h: int when c;", "h = 10 fby x when c; y = x;"), "0110011", 3, NONE, 10, 2, NONE, NONE, 3, 6);
        run(main("var h: int when not c;", "h = 10 fby x when not c; y = x;"), "1001100", 3, NONE, 10, 2, NONE, NONE, 3,
            6);
        run(main("var h: int when c;", "h = (10 fby x) when c; y = x;"), "0110011", 3, NONE, 1, 2, NONE, NONE, 5, 6);
        run(main("var h: int when c;", "h = 1 fby h + 1; y = x;"), "0110011", 3, NONE, 1, 2, NONE, NONE, 3, 4);
        run(main("var e: bool when c; h: int when not e;", "e = (x mod 2 = 0) when c; h = 10 fby x when c when not e;"
            + " y = x;"), "01110101", 4, NONE, NONE, 10, NONE, NONE, NONE, NONE, NONE);
    }

    private static void firstOfCalls() {
        Check.sentence("What is put in for a called NODE has its BASE on the CLOCK of the call");
        String f = "node f(a: int) returns (r: int); let r = 100 -> pre a; tel ";
        run(f + main("", "y = f(x);"), "0000", 2, 100, 1, 2, 3);
        run(f + main("var h: int when c;", "h = f(x when c); y = x;"), "0110011", 3, NONE, 100, 2, NONE, NONE, 3, 6);
        run(f + main("var h: int when not c;", "h = f(x when not c); y = x;"), "1001100", 3, NONE, 100, 2, NONE, NONE,
            3, 6);
        run(f + main("var h: int when c;", "h = f(7); y = x;"), "0110011", 3, NONE, 100, 7, NONE, NONE, 7, 7);
        run(f + main("", "y = current (f(7) when c);"), "0110011", 2, 0, 7, 7, 7, 7, 7, 7);
        run(f + main("", "y = current f(7 when c);"), "0110011", 2, 0, 100, 7, 7, 7, 7, 7);
        // Within the called node a clock of its own, on the clock of the call.
        String g = "node g(a: int) returns (r: int); var e: bool; h: int when e; let e = a mod 2 = 0; h = 1 fby h + 1;"
            + " r = current h; tel ";
        run(g + main("var h: int when c;", "h = g(x when c); y = x;"), "01011101", 3, NONE, 1, NONE, 2, 2, 3, NONE, 4);
    }

    private static void current() {
        Check.sentence("current e: that of e now, or, where C is not so, the last one before (0 or false before any)");
        run(main("", "y = current (x when c);"), "0010010", 2, 0, 0, 3, 3, 3, 6, 6);
        run(main("", "y = current (x when not c);"), "1101101", 2, 0, 0, 3, 3, 3, 6, 6);
        run(main("", "y = current (x when c);"), "0000", 2, 0, 0, 0, 0);
        run(main("", "y = current (x when c);"), "1111", 2, 1, 2, 3, 4);
        run(main("", "y = current (7 when c);"), "0100", 2, 0, 7, 7, 7);
        run(main("var h: int when c;", "h = 0 - x when c; y = current h;"), "0100", 2, 0, -2, -2, -2);
        run(main("", "y = current ((x when c) + 10) + x;"), "0010", 2, 1, 2, 16, 17);
        run(main("", "y = pre current (x when c);"), "0100", 2, 0, 0, 2, 2);
        run(main("", "y = current pre (x when c);"), "0110", 2, 0, 0, 2, 2);
    }

    private static void currentOfBools() {
        Check.sentence("current e: false before any");
        run(main("var b: bool;", "b = current (true when c); y = x;"), "0100", 3, 0, 1, 1, 1);
        run(main("var b: bool;", "b = current ((x > 2) when c); y = x;"), "010010", 3, 0, 0, 0, 0, 1, 1);
        run(main("var b: bool;", "b = current (c when c); y = x;"), "00100", 3, 0, 0, 1, 1, 1);
        run(main("var b: bool;", "b = current (c when not c); y = x;"), "10101", 3, 0, 0, 0, 0, 0);
        run(main("var b: bool;", "b = not current (true when c); y = x;"), "0010", 3, 1, 1, 0, 0);
    }

    private static void currentWithinClocks() {
        Check.sentence("current e: e is on C or not C, it on C's CLOCK");
        String vars = "var e: bool when c; h: int when e; g: int when c;";
        String body = "e = (x mod 2 = 0) when c; h = x when c when e; g = current h; y = current g;";
        // e at 2, 3, 4, 7, 8: true at 2, 4, 8.
        run(main(vars, body), "01110011", 5, NONE, 2, 2, 4, NONE, NONE, 4, 8);
        run(main(vars, body), "01110011", 2, 0, 2, 2, 4, 4, 4, 4, 8);
        run(main(vars, body), "00100110", 5, NONE, NONE, 0, NONE, NONE, 6, 6, NONE);
        run(main(vars, body), "00100110", 2, 0, 0, 0, 0, 0, 6, 6, 6);
        vars = vars.replace("when e", "when not e");
        body = body.replace("when e", "when not e");
        run(main(vars, body), "01110011", 5, NONE, 0, 3, 3, NONE, NONE, 7, 7);
        run(main(vars, body), "01110011", 2, 0, 0, 3, 3, 3, 3, 7, 7);
    }

    private static void lastVariableAsClock() {
        Check.sentence("C of a bool VARIABLE (the last one, and the first)");
        run(main("var d: bool;", "d = x mod 2 = 0; y = current (x when d);"), "00000", 2, 0, 2, 2, 4, 4);
        run(main("var d: bool;", "d = x mod 2 = 0; y = current (x when not d);"), "00000", 2, 1, 1, 3, 3, 5);
        run(main("", "y = current (x when c);"), "01010", 2, 0, 2, 2, 4, 4);
        String d = "node d(a: int) returns (r: int); var e: bool; let e = a mod 2 = 0; r = current (a when e); tel ";
        run(d + main("", "y = d(x);"), "00000", 2, 0, 2, 2, 4, 4);
        run(d.replace("when e", "when not e") + main("", "y = d(x);"), "00000", 2, 1, 1, 3, 3, 5);
    }

    private static void clockThatIsNeverOn() {
        Check.sentence("2^40 if that was none of its CLOCK");
        String vars = "var n: bool; h: int when n; e: bool when n; k: int when e; l: int when not e;";
        String body = "n = false; h = 1 -> 2; e = true; k = 3; l = 4; y = current (h + current k);";
        for (int k = 4; k <= 7; k++) {
            run(main(vars, body), "0101", k, NONE, NONE, NONE, NONE);
        }
        run(main(vars, body), "0101", 2, 0, 0, 0, 0);
    }
}
