/** What programs do at their instants: each sign and word, clocks, called nodes, causes and sizes. */
public final class RunTest {
    private static final long NONE = 1L << 40;

    private RunTest() {
    }

    public static void main(String[] args) {
        numbers();
        bools();
        choices();
        earlier();
        earlierOnClocks();
        currents();
        nestedClocks();
        anyClock();
        calls();
        callsOnClocks();
        manyOutputs();
        binding();
        causes();
        sizes();
        longRun();
        Check.finish(RunTest.class);
    }

    /** The value of an expression over ints x and y. */
    private static void ofInts(String expression, int x, int y, long due) {
        StreamNodes nodes = Check.program("node main(x, y: int) returns (z: int); let z = " + expression + "; tel");
        nodes.input(0, x);
        nodes.input(1, y);
        nodes.tick(1);
        Check.same(expression + " of " + x + " and " + y, nodes.value(2), due);
    }

    /** The values of an expression over bools a and b for false false, false true, true false, true true. */
    private static void ofBools(String expression, int... due) {
        StreamNodes nodes = Check.program("node main(a, b: bool) returns (z: bool); let z = " + expression + "; tel");
        for (int i = 0; i < 4; i++) {
            nodes.input(0, i / 2);
            nodes.input(1, i % 2);
            nodes.tick(1);
            Check.same(expression + " of " + i / 2 + " and " + i % 2, nodes.value(2), due[i]);
        }
    }

    private static void numbers() {
        int low = Integer.MIN_VALUE;
        int high = Integer.MAX_VALUE;
        ofInts("x + y", high, 1, low);
        ofInts("x - y", low, 1, high);
        ofInts("x * y", 65536, 65536, 0);
        ofInts("x * y", high, high, 1);
        ofInts("- x", low, 0, low);
        ofInts("- x", 5, 0, -5);
        ofInts("x div y", 7, 2, 3);
        ofInts("x div y", -7, 2, -3);
        ofInts("x div y", 7, -2, -3);
        ofInts("x div y", -7, -2, 3);
        ofInts("x mod y", 7, 2, 1);
        ofInts("x mod y", -7, 2, -1);
        ofInts("x mod y", 7, -2, 1);
        ofInts("x mod y", -7, -2, -1);
        ofInts("x div y", 7, 0, 0);
        ofInts("x mod y", 7, 0, 0);
        ofInts("x div y", low, -1, low);
        ofInts("x mod y", low, -1, 0);
        ofInts("999999999 + 000000001", 0, 0, 1000000000);
        int[][] pairs = {{1, 2}, {2, 1}, {2, 2}, {low, high}, {high, low}};
        for (int[] pair : pairs) {
            int x = pair[0];
            int y = pair[1];
            ofInts("if x = y then 1 else 0", x, y, x == y ? 1 : 0);
            ofInts("if x <> y then 1 else 0", x, y, x != y ? 1 : 0);
            ofInts("if x < y then 1 else 0", x, y, x < y ? 1 : 0);
            ofInts("if x <= y then 1 else 0", x, y, x <= y ? 1 : 0);
            ofInts("if x > y then 1 else 0", x, y, x > y ? 1 : 0);
            ofInts("if x >= y then 1 else 0", x, y, x >= y ? 1 : 0);
        }
    }

    private static void bools() {
        ofBools("a and b", 0, 0, 0, 1);
        ofBools("a or b", 0, 1, 1, 1);
        ofBools("a xor b", 0, 1, 1, 0);
        ofBools("a => b", 1, 1, 0, 1);
        ofBools("not a", 1, 1, 0, 0);
        ofBools("a = b", 1, 0, 0, 1);
        ofBools("a <> b", 0, 1, 1, 0);
        ofBools("true", 1, 1, 1, 1);
        ofBools("false", 0, 0, 0, 0);
        ofBools("if a then b else not b", 1, 0, 0, 1);
    }

    private static void choices() {
        // What is not chosen goes on all the same.
        StreamNodes nodes = Check.program("node main(c: bool; x: int) returns (y: int); let y = if c then 100 + pre x"
            + " else 200 -> 300 + pre x; tel");
        nodes.input(1, 1);
        nodes.input(0, 1);
        Check.values(nodes, 2, 100);
        nodes.input(1, 2);
        nodes.input(0, 0);
        Check.values(nodes, 2, 301);
        nodes.input(0, 1);
        Check.values(nodes, 2, 102);
    }

    private static void earlier() {
        String counting = "node main(x: int) returns (n: int); let n = ";
        Check.values(Check.program(counting + "pre n + 1; tel"), 1, 1, 2, 3);
        Check.values(Check.program(counting + "0 -> pre n + 1; tel"), 1, 0, 1, 2);
        Check.values(Check.program(counting + "5 fby n + 1; tel"), 1, 5, 6, 7);
        Check.values(Check.program(counting + "1 -> 2 -> 3; tel"), 1, 1, 3, 3);
        Check.values(Check.program(counting + "1 fby 2 fby 3; tel"), 1, 1, 2, 3, 3);
        Check.values(Check.program(counting + "(1 fby 2) fby 3; tel"), 1, 1, 3, 3);
        Check.values(Check.program(counting + "1 -> pre (2 -> 3); tel"), 1, 1, 2, 3);
        Check.values(Check.program(counting + "pre pre (7 -> 8); tel"), 1, 0, 0, 7, 8);
        Check.values(Check.program(counting + "pre (x + pre pre n + 1); tel"), 1, 0, 1, 1, 1, 2, 2, 2, 3);
        StreamNodes swap = Check.program("node main(x: int) returns (a, b: int); let a = 1 fby b; b = 2 fby a; tel");
        Check.values(swap, 1, 1, 2, 1);
        Check.same("the other one", swap.value(2), 2);
        StreamNodes bool = Check.program("node main(x: bool) returns (y: bool); let y = not pre x; tel");
        bool.input(0, 1);
        Check.values(bool, 1, 1, 0, 0);
    }

    private static void earlierOnClocks() {
        StreamNodes nodes = Check.program("node main(c: bool; x: int) returns (y: int); var h, p, a, f: int when c;"
            + " let y = x; h = x when c; p = pre h; a = h -> 0 - h; f = 7 fby h; tel");
        int[] c = {0, 1, 0, 0, 1, 1};
        long[][] due = {{NONE, 1, NONE, NONE, 4, 5}, {NONE, 0, NONE, NONE, 1, 4}, {NONE, 1, NONE, NONE, -4, -5},
            {NONE, 7, NONE, NONE, 1, 4}};
        for (int i = 0; i < c.length; i++) {
            nodes.input(0, c[i]);
            nodes.input(1, i);
            nodes.tick(1);
            for (int k = 0; k < due.length; k++) {
                Check.same("value(" + (3 + k) + ") at " + i, nodes.value(3 + k), due[k][i]);
            }
        }
    }

    private static void currents() {
        StreamNodes nodes = Check.program("node main(c: bool; x: int) returns (y, z: int; b: bool); let"
            + " y = current (x when c); z = current (x when not c); b = current ((x > 0) when c); tel");
        int[] c = {0, 0, 1, 0, 1, 1};
        int[] y = {0, 0, 3, 3, 5, 6};
        int[] z = {1, 2, 2, 4, 4, 4};
        int[] b = {0, 0, 1, 1, 1, 1};
        for (int i = 0; i < c.length; i++) {
            nodes.input(0, c[i]);
            nodes.input(1, i + 1);
            nodes.tick(1);
            Check.same("y", nodes.value(2), y[i]);
            Check.same("z", nodes.value(3), z[i]);
            Check.same("b", nodes.value(4), b[i]);
        }
    }

    private static void nestedClocks() {
        StreamNodes nodes = Check.program("node main(c, d: bool; x: int) returns (y: int); var e: bool when c;"
            + " h: int when not e; g: int when c; let e = d when c; h = (x when c) when not e; g = current h;"
            + " y = current (current (h + 0)); tel");
        int[][] in = {{0, 0}, {1, 1}, {1, 0}, {0, 0}, {1, 1}, {0, 1}, {1, 0}};
        long[] e = {NONE, 1, 0, NONE, 1, NONE, 0};
        long[] h = {NONE, NONE, 2, NONE, NONE, NONE, 6};
        long[] g = {NONE, 0, 2, NONE, 2, NONE, 6};
        long[] y = {0, 0, 2, 2, 2, 2, 6};
        for (int i = 0; i < in.length; i++) {
            nodes.input(0, in[i][0]);
            nodes.input(1, in[i][1]);
            nodes.input(2, i);
            nodes.tick(1);
            Check.same("y at " + i, nodes.value(3), y[i]);
            Check.same("e at " + i, nodes.value(4), e[i]);
            Check.same("h at " + i, nodes.value(5), h[i]);
            Check.same("g at " + i, nodes.value(6), g[i]);
        }
    }

    private static void anyClock() {
        // What is on any clock gets that around it: 1 -> 2 is at its first instant when its surroundings are.
        String first = "node first(a: int) returns (r: int); let r = a -> 0; tel ";
        StreamNodes nodes = Check.program(first + "node main(c: bool) returns (p, q, r, s: int); var h, k: int when c;"
            + " let h = 1 -> 2; k = first(3) + h; p = current ((1 -> 2) when c); q = current h; r = current k;"
            + " s = current (first(5) when c); tel");
        nodes.input(0, 0);
        nodes.tick(1);
        nodes.input(0, 1);
        nodes.tick(1);
        Check.same("on the base, seen at its second instant", nodes.value(1), 2);
        Check.same("on c, at its first instant", nodes.value(2), 1);
        Check.same("a call on c, at its first instant", nodes.value(3), 4);
        Check.same("a call on the base, at its second instant", nodes.value(4), 0);
        nodes.tick(1);
        Check.same("on c, at its second instant", nodes.value(2), 2);
        Check.same("a call on c, at its second instant", nodes.value(3), 2);
    }

    private static void calls() {
        String sum = "node sum(x: int) returns (s: int); let s = x + (0 -> pre s); tel ";
        StreamNodes nodes = Check.program(sum + "node twice(x: int) returns (s: int); var t: int; let s = sum(t);"
            + " t = sum(x); tel node main(x: int) returns (a, b, c: int); let a = sum(x); b = twice(x);"
            + " c = sum(1) + sum(sum(1)); tel");
        nodes.input(0, 1);
        Check.same("variables as put in", nodes.count(3), 4 + 2 + (3 + 2 * 2) + 3 * 2);
        long[][] due = {{1, 1, 2}, {2, 3, 5}, {3, 6, 9}, {4, 10, 14}};
        for (int i = 0; i < due.length; i++) {
            nodes.tick(1);
            for (int k = 0; k < 3; k++) {
                Check.same("value(" + (k + 1) + ") at " + i, nodes.value(k + 1), due[i][k]);
            }
        }
    }

    private static void callsOnClocks() {
        String count = "node count(up: bool) returns (n: int); var h: int when up; let h = 1 -> pre h + 1;"
            + " n = current h; tel ";
        StreamNodes nodes = Check.program(count + "node main(c, u: bool) returns (y, z: int); let"
            + " y = current count(u when c); z = pre current count(u when not c); tel");
        int[][] in = {{0, 1}, {1, 1}, {0, 1}, {1, 0}, {1, 1}, {0, 0}, {0, 1}, {1, 1}};
        int[] y = {0, 1, 1, 1, 2, 2, 2, 3};
        int[] z = {0, 1, 1, 2, 2, 2, 2, 3};
        for (int i = 0; i < in.length; i++) {
            nodes.input(0, in[i][0]);
            nodes.input(1, in[i][1]);
            nodes.tick(1);
            Check.same("y at " + i, nodes.value(2), y[i]);
            Check.same("z at " + i, nodes.value(3), z[i]);
        }
    }

    private static void manyOutputs() {
        StreamNodes nodes = Check.program("node parts(x, by: int) returns (rest: int; even: bool; times: int); let"
            + " times = x div by; rest = x mod by; even = rest = 0; tel node main(c: bool; x: int) returns (r: int);"
            + " var e: bool; t: int; p: int when c; q: bool when c; s: int when c; let (r, e, t) = parts(x, 3);"
            + " (p, q, s) = parts(x when c, 4); tel");
        nodes.input(1, 14);
        nodes.tick(1);
        long[] due = {0, 14, 2, 0, 4, NONE, NONE, NONE};
        for (int k = 0; k < due.length; k++) {
            Check.same("value(" + k + ")", nodes.value(k), due[k]);
        }
        nodes.input(0, 1);
        nodes.tick(1);
        Check.same("p", nodes.value(5), 2);
        Check.same("q", nodes.value(6), 0);
        Check.same("s", nodes.value(7), 3);
    }

    private static void binding() {
        ofInts("1 - 2 - 3", 0, 0, -4);
        ofInts("2 + 3 * 4", 0, 0, 14);
        ofInts("20 div 3 * 3 mod 4", 0, 0, 2);
        ofInts("- x + y", 1, 5, 4);
        ofInts("- x * y", 2, 5, -10);
        ofInts("- (x + y)", 2, 5, -7);
        ofInts("if x < y then 1 else 2 + 10", 1, 2, 1);
        ofInts("if x < y then 1 else 2 + 10", 2, 1, 12);
        ofInts("if x + 1 = y and y - 1 = x then 1 else 2", 1, 2, 1);
        ofInts("- - x - - y", 3, 4, 7);
        ofBools("a => b => a", 1, 1, 1, 1);
        ofBools("(a => b) => a", 0, 0, 1, 1);
        ofBools("a or b and not a", 0, 1, 1, 1);
        ofBools("a or b xor a", 0, 1, 0, 0);
        ofBools("a xor b or a", 0, 1, 1, 1);
        ofBools("a xor b and a", 0, 0, 1, 0);
        ofBools("not a and b", 0, 1, 0, 0);
        ofBools("not a = b", 0, 1, 1, 0);
        ofBools("a and b => a or b", 1, 1, 1, 1);
        ofBools("a = b => b", 0, 1, 1, 1);
        StreamNodes nodes = Check.program("node main(x: int) returns (y: int); let y = 1 + 1 -> 2 * 3 -> 4 + 5; tel");
        Check.values(nodes, 1, 2, 9, 9);
        StreamNodes arrows = Check.program("node main(a: bool) returns (y: bool); let y = a => a -> false; tel");
        Check.values(arrows, 1, 1, 0);
        StreamNodes whens = Check.program("node main(c: bool) returns (y: int); let y = current - 3 when c; tel");
        whens.input(0, 1);
        Check.values(whens, 1, -3);
    }

    private static void causes() {
        String copy = "node copy(a, b: int) returns (r, s: int); let r = a; s = 0 fby b; tel ";
        StreamNodes nodes = Check.program(copy + "node main(c: bool; x, z: int) returns (p, q: int); var h: int when c;"
            + " d: bool; k: int when d; y, u: int; let (p, q) = copy(x, z); h = 1; d = c; k = 2; y = current k;"
            + " u = pre current k; tel");
        String[] names = {"c", "x", "z", "p", "q", "h", "d", "k", "y", "u"};
        String[] due = {"c", "x", "z", "xp", "q", "ch", "cd", "cdk", "cdky", "u"};
        for (int a = 0; a < names.length; a++) {
            for (int b = 0; b < names.length; b++) {
                Check.same(names[a] + " has " + names[b], nodes.causes(a, b), due[a].contains(names[b]));
            }
        }
        // Through a call on a clock, whose C is a cause of all that is put in.
        StreamNodes called = Check.program("node one(a: int) returns (r: int); let r = 1; tel"
            + " node main(c: bool; x: int) returns (y: int); var h: int when c; let h = one(x when c);"
            + " y = current h; tel");
        Check.same("an input that is not used", called.causes(2, 1), false);
        Check.same("the clock of a call", called.causes(2, 0), true);
    }

    private static void sizes() {
        StreamNodes nodes = Check.program("node f(x: int) returns (y: int); let y = - x; tel node main(c: bool; x: int)"
            + " returns (y: int); var b: bool; let b = not c and true or false => x = 1; y = current (if c when c then"
            + " f(x when c) else pre (x when c) -> (1 fby 2)); tel");
        int equations = 3;
        int b = 3 + 1 + 2 + 1 + 3;
        int y = 2 + 2 + 1 + 2 + 3 + 1 + 3;
        Check.same("parts", nodes.count(4), equations + b + y + 2);
        Check.same("cells", nodes.count(6), 1 + 1 + 1 + 2);
        Check.same("variables", nodes.count(3), 4 + 2);
    }

    private static void longRun() {
        StreamNodes nodes = Check.program("node main(x: int) returns (n, s: int); let n = 0 fby n + 1;"
            + " s = n + (0 -> pre s); tel");
        for (int i = 0; i < 400; i++) {
            nodes.tick(1000);
        }
        Check.same("n", nodes.value(1), 399999);
        Check.same("s", nodes.value(2), (int) (399999L * 400000 / 2));
    }
}
