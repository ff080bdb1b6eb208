import java.util.Locale;

/** Each fault but that of SIZES with its place, which a @ marks. */
public final class FaultTest {
    private static final String F = "node f(a: int) returns (r: int); let r = a; tel ";
    private static final String TWO = "node two(a: int; b: bool) returns (r: int; s: bool); let r = a; s = b; tel ";
    private static final String MAIN = "node main(c: bool; x: int) returns (y: int; b: bool); ";
    private static final String CLOCKED = F + TWO + MAIN + "var h: int when c; k: int when not c;"
        + " let h = 1; k = 2; b = c; ";

    private FaultTest() {
    }

    public static void main(String[] args) {
        signs();
        words();
        heads();
        equations();
        expressions();
        namesDeclared();
        namesUsed();
        nodeEnds();
        noEquations();
        types();
        calls();
        clocks();
        ownCauses();
        ownCausesPutIn();
        Check.finish(FaultTest.class);
    }

    /** A fault within the right side of y's equation. */
    private static void within(String marked, int fault) {
        Check.faultyAt(CLOCKED + "y = " + marked + "; tel", fault);
    }

    /** A fault whose place is where y's equation begins. */
    private static void ofAll(String expression, int fault) {
        Check.faultyAt(CLOCKED + "@y = " + expression + "; tel", fault);
    }

    private static void good(String expression) {
        Check.program(CLOCKED + "y = " + expression + "; tel");
    }

    private static void signs() {
        Check.faultyAt("@", 1);
        Check.faultyAt("  \n\t\r @", 1);
        Check.faultyAt(" -- node@", 1);
        Check.faultyAt(" -- node\n @", 1);
        Check.faultyAt("@#", 1);
        Check.faultyAt("  @_a", 1);
        Check.faultyAt("@\u00e9", 1);
        Check.faultyAt("@\u000b node", 1);
        Check.faultyAt("@\u0000", 1);
        Check.faultyAt("-- all of it # \u00ff\n @tel", 1);
        Check.faultyAt("node@", 1);
        Check.faultyAt("node main  @", 1);
        Check.faultyAt("node @-> (", 1);
        within("1 <=@> 2", 1);
        within("1 <>@= 2", 1);
        within("1 @& 2", 1);
        within("x =@= 2", 1);
        within("1 =>@= 2", 1);
        within("x -- 1\n@x", 1);
        within("x --\n@tel", 1);
        ofAll("x<-1", 4);
        good("x --1;\n");
        good("x--1\n-1--\n");
        good("if x<=-1 then 1 else-1->-1");
        good("if x<>-1 then 1 else 2");
    }

    private static void words() {
        String longest = "a234567890123456789012345678901";
        Check.program("node " + longest + "(x: int) returns (Y_9: int); let Y_9 = x; tel");
        Check.faultyAt("node @" + longest + "2(x: int) returns (y: int); let y = x; tel", 1);
        good("999999999");
        good("000000001");
        within("@1234567890", 1);
        within("@0000000001", 1);
        within("1@x", 1);
        good("current(1when c)");
        for (String keyword : ("node returns var let tel int bool when not and or xor if then else pre current fby div"
            + " mod true false").split(" ")) {
            String other = keyword.toUpperCase(Locale.ROOT);
            Check.faultyAt("node @" + keyword + "(x: int) returns (y: int); let y = x; tel", 1);
            Check.program("node " + keyword + "s(x: int) returns (" + other + ": int); let " + other + " = x; tel");
        }
    }

    private static void heads() {
        Check.faultyAt("@main(x: int) returns (y: int); let y = x; tel", 1);
        Check.faultyAt("node main @x: int) returns (y: int); let y = x; tel", 1);
        Check.faultyAt("node main(@) returns (y: int); let y = x; tel", 1);
        Check.faultyAt("node main(x, @: int) returns (y: int); let y = x; tel", 1);
        Check.faultyAt("node main(x @int) returns (y: int); let y = x; tel", 1);
        Check.faultyAt("node main(x: @real) returns (y: int); let y = x; tel", 1);
        Check.faultyAt("node main(x: int @when x) returns (y: int); let y = x; tel", 1);
        Check.faultyAt("node main(x: int;@) returns (y: int); let y = x; tel", 1);
        Check.faultyAt("node main(x: int) @(y: int); let y = x; tel", 1);
        Check.faultyAt("node main(x: int) returns @y: int; let y = x; tel", 1);
        Check.faultyAt("node main(x: int) returns (y: int @when x); let y = x; tel", 1);
        Check.faultyAt("node main(x: int) returns (y: int) @let y = x; tel", 1);
        Check.faultyAt("node main(x: int) returns (y: int); @y = x; tel", 1);
        Check.faultyAt("node main(x: int) returns (y: int); var @let y = x; tel", 1);
        Check.faultyAt("node main(x: int) returns (y: int); var z: int @let y = x; tel", 1);
        Check.faultyAt("node main(x: int) returns (y: int); var z: int;@; let y = x; tel", 1);
        Check.faultyAt("node main(x: bool) returns (y: int); var z: int when @true; let y = 1; z = 1; tel", 1);
        Check.faultyAt("node main(x: bool) returns (y: int); var z: int when not @not x; let y = 1; z = 1; tel", 1);
        Check.faultyAt("node main(x: int) returns (y: int); let y = x; tel @tel", 1);
        Check.faultyAt("node main(x: int) returns (y: int); let y = x; tel@;", 1);
        Check.faultyAt("node main(x: int) returns (y: int); let y = x; @", 1);
        Check.program("node main(x, u: int; w: bool) returns (y: int; v, z: bool); var p, q: int; r: bool when v;"
            + " s, t: int when not r; let y = x; v = w; z = w; p = x; q = u; r = true; s = 1; t = s; tel");
    }

    private static void equations() {
        Check.faultyAt(MAIN + "let b = c; y @:= 1; tel", 1);
        Check.faultyAt(MAIN + "let b = c; @1 = y; tel", 1);
        Check.faultyAt(MAIN + "let b = c; y = 1 @tel", 1);
        Check.faultyAt(MAIN + "let b = c; y = @; tel", 1);
        Check.faultyAt(MAIN + "let b = c; y = x;@; tel", 1);
        Check.faultyAt(TWO + MAIN + "let (@) = two(x, c); tel", 1);
        Check.faultyAt(TWO + MAIN + "let (y, @1) = two(x, c); tel", 1);
        Check.faultyAt(TWO + MAIN + "let (y @b) = two(x, c); tel", 1);
        Check.faultyAt(TWO + MAIN + "let (y, b) @two(x, c); tel", 1);
        Check.faultyAt(TWO + MAIN + "let (y, b) = @(two(x, c)); tel", 1);
        Check.faultyAt(TWO + MAIN + "let (y, b) = two@; tel", 1);
        Check.faultyAt(TWO + MAIN + "let (y, b) = two(x, c) @when c; tel", 1);
        Check.faultyAt(TWO + MAIN + "let (y, b) = two(x, c) @+ 1; tel", 1);
        Check.faultyAt(TWO + MAIN + "let (y, b) = two(x, c@; tel", 1);
        Check.program(TWO + MAIN + "let (y, b) = two(x -> 1, if c then c else c); tel");
        Check.program(F + MAIN + "let (y) = f(x); b = c; tel");
    }

    private static void expressions() {
        within("@)", 1);
        within("1 + @* 2", 1);
        within("1 + @if c then 1 else 2", 1);
        within("- @if c then 1 else 2", 1);
        within("pre @if c then 1 else 2", 1);
        within("current @if c then 1 else 2", 1);
        within("if not @if c then c else c then 1 else 2", 1);
        within("if c => @if c then c else c then 1 else 2", 1);
        within("if c @else 1", 1);
        within("if c then 1@", 1);
        within("(if c then 1@) + 2", 1);
        within("if c then 1 @then 2 else 3", 1);
        within("if c then 1 else 2 @else 3", 1);
        within("if c then if c then 1 else 2@", 1);
        within("1 @then 2", 1);
        within("(1@", 1);
        within("(1@, 2)", 1);
        within("1@, 2", 1);
        within("1@)", 1);
        within("f(@)", 1);
        within("f(1,@)", 1);
        within("f(1 @else)", 1);
        within("1 @x", 1);
        within("1 @(2)", 1);
        within("1 @not 2", 1);
        within("1 @pre 2", 1);
        within("if 1 < 2 @< 3 then 1 else 2", 1);
        within("if c = c @<> c then 1 else 2", 1);
        within("if 1 = not c @= c then 1 else 2", 1);
        within("x when @", 1);
        within("x when c @c", 1);
        within("x when @1", 1);
        within("x when not @not c", 1);
        within("x when @(c)", 1);
        within("x -> @-> 1", 1);
        good("if c then 1 -> 2 else 3 fby if c then 4 else 5 -> 6");
        good("1 -> if c then 1 else 2");
        good("1 fby 2 -> 3 fby 4");
        good("f(if c then 1 else 2)");
        good("(if c then 1 else 2)");
        good("if if c then c else b then 1 else 2");
        good("if not c then if not c then 1 else - 2 else if c then 3 else 4");
        good("- x -> if c then 1 else 2");
        good("x + 1 fby if c then 1 else 2");
        Check.program(TWO + MAIN + "let (y, b) = two(- x, if not c then c else if c then not c else c); tel");
        good("if c then if b then 1 else 2 else 3");
        good("if c => b => c or b xor c and b = c then 1 else - - x * 2 div 3 mod 4 + 5 - 6");
        good("if (c = c) = c and c = c or c <> (c = c) then 1 else 2");
    }

    private static void namesDeclared() {
        Check.faultyAt("node main(x, @x: int) returns (y: int); let y = x; tel", 2);
        Check.faultyAt("node main(x: int; @x: bool) returns (y: int); let y = x; tel", 2);
        Check.faultyAt("node main(x: int) returns (@x: int); let x = 1; tel", 2);
        Check.faultyAt("node main(x: int) returns (y: int); var z, @y: int; let y = x; tel", 2);
        Check.faultyAt(F + "node @f(x: int) returns (y: int); let y = x; tel", 2);
        Check.program(F + "node main(f: int) returns (main: int); let main = f(f); tel");
        Check.program(F + "node g(a: bool) returns (r: bool); let r = a; tel " + MAIN + "let y = f(x); b = g(c); tel");
        Check.faultyAt(MAIN + "var h: int when @d; d: bool; let y = 1; b = c; h = 1; d = c; tel", 2);
        Check.faultyAt(MAIN + "var h: bool when @h; let y = 1; b = c; h = true; tel", 2);
        Check.faultyAt(MAIN + "var h, k: bool when @h; let y = 1; b = c; h = true; k = true; tel", 2);
        Check.faultyAt(MAIN + "var h: int when @x; let y = 1; b = c; h = 1; tel", 2);
        Check.faultyAt(MAIN + "var h: int when not @none; let y = 1; b = c; h = 1; tel", 2);
        Check.faultyAt(F + MAIN + "var h: int when @f; let y = 1; b = c; h = 1; tel", 2);
        Check.faultyAt("node g(only: bool) returns (r: int); let r = 1; tel " + MAIN + "var h: int when @only; let", 2);
        Check.program(MAIN + "var h: int when b; k: int when not c; let y = 1; b = c; h = 1; k = 2; tel");
    }

    private static void namesUsed() {
        within("@none", 2);
        within("1 + @none #", 2);
        within("@f", 2);
        within("@x(1)", 2);
        within("@none(1)", 2);
        within("@main(1)", 2);
        within("@a", 2);
        within("x when @none", 2);
        within("x when not @none", 2);
        within("x when @x", 2);
        within("x when @f(1)", 2);
        Check.faultyAt(MAIN + "let @none = 1; tel", 2);
        Check.faultyAt(MAIN + "let @x = 1; tel", 2);
        Check.faultyAt(MAIN + "let @none := 1; tel", 2);
        Check.faultyAt(TWO + MAIN + "let (y, @c) = two(x, c); tel", 2);
        Check.faultyAt(TWO + MAIN + "let (y, @none) = two(x, c); tel", 2);
        Check.faultyAt(TWO + MAIN + "let (y, b) = @none(x, c); tel", 2);
        Check.faultyAt(TWO + MAIN + "let (y, b) = @y; tel", 2);
        Check.faultyAt(MAIN + "let y = @g(x); b = c; tel node g(a: int) returns (r: int); let r = a; tel", 2);
    }

    private static void nodeEnds() {
        Check.faultyAt(MAIN + "let y = 1; @tel", 2);
        Check.faultyAt(MAIN + "var h: int; let y = 1; b = c; @tel", 2);
        Check.faultyAt(MAIN + "let y = 1; b = c; y = 2; @tel", 2);
        Check.faultyAt(MAIN + "let y = true; b = 1; y = 2; @tel", 2);
        Check.faultyAt(TWO + MAIN + "let (y, b) = two(x, c); b = c; @tel", 2);
        Check.faultyAt(TWO + MAIN + "let b = c; (y, y) = two(x, c); @tel", 2);
        Check.faultyAt(MAIN + "let y = 1; @tel #", 2);
    }

    /** One equation at least stands in each node, so its lack is found ahead of what is looked at with the tel. */
    private static void noEquations() {
        Check.faultyAt("node gate(open:bool)returns(lamp:bool); let @tel", 1);
        Check.faultyAt(MAIN + "let @tel", 1);
        Check.faultyAt(MAIN + "let@;tel", 1);
        Check.faultyAt(MAIN + "let -- y = 1; b = c;\n @tel #", 1);
        Check.faultyAt(MAIN + "var h: int; g: bool when c; let @tel", 1);
        Check.faultyAt(MAIN + "let @tel node f(a: int) returns (r: int); let r = a; tel", 1);
        Check.faultyAt(F + TWO + MAIN + "let @tel", 1);
        Check.faultyAt(MAIN + "let @", 1);
        Check.faultyAt("node one(a: int) returns (r: int); let r = a; tel node two(a: int) returns (r: int); let @tel",
            1);
    }

    private static void types() {
        for (String wrong : new String[] {"true", "x + true", "true - 1", "x * c", "c div 1", "1 mod c", "- c",
            "if x then 1 else 2", "if c then true else 1", "if c then 1 else true", "if c then true else true",
            "c -> 1", "1 -> c", "1 fby c", "c fby 1", "c", "c = c", "x = 1", "x < 1", "not x", "c and c", "x and 1",
            "pre c", "current (c when c)", "f(c)", "f(c) + 1", "f(f(c))", "if c = 1 then 1 else 2",
            "if 1 <> c then 1 else 2", "if c < c then 1 else 2", "if c <= 1 then 1 else 2", "if 1 > c then 1 else 2",
            "if true >= false then 1 else 2", "if not 1 then 1 else 2", "if c and 1 then 1 else 2",
            "if 1 or c then 1 else 2", "if c xor 1 then 1 else 2", "if 1 => c then 1 else 2", "if pre 1 then 1 else 2",
            "if 1 => 1 then 1 else 2", "if f(1) then 1 else 2", "true + h"}) {
            ofAll(wrong, 4);
        }
        for (String right : new String[] {"if c = true then 1 else 2", "if x <> 1 then 1 else 2",
            "if c <> c then 1 else 2", "pre 1", "current (1 when c)", "if pre c and (c fby true) then 1 else 2",
            "if (1 < 2) = c then 1 else 2", "if current (c when c) then 1 else 2"}) {
            good(right);
        }
        Check.faultyAt(TWO + MAIN + "let @(b, y) = two(x, c); tel", 4);
        Check.faultyAt(TWO + MAIN + "let @(y, b) = two(c, c); tel", 4);
        Check.faultyAt(TWO + MAIN + "let @(y, b) = two(x, x); tel", 4);
    }

    private static void calls() {
        ofAll("f(1, 2)", 5);
        ofAll("two(1, c)", 5);
        ofAll("two(1, c) + 1", 5);
        Check.faultyAt(CLOCKED + "@(y) = two(1, c); tel", 5);
        Check.faultyAt(CLOCKED + "@(y) = f(1, 2); tel", 5);
        Check.faultyAt(F + MAIN + "let @(y, b) = f(x); tel", 5);
        Check.faultyAt(TWO + MAIN + "let @(y, b) = two(x); tel", 5);
        Check.faultyAt(TWO + MAIN + "let @(y, b) = two(x, c, c); tel", 5);
        ofAll("f(c, 2)", 5);
        ofAll("f(1 + c, 2)", 4);
        ofAll("c + f(1, 2)", 5);
        ofAll("(c + 1) + f(1, 2)", 4);
        ofAll("f(1, 2) + (c + 1)", 5);
        ofAll("f(f(c), f(1, 2))", 4);
        ofAll("f(f(1, 2), f(c))", 5);
        ofAll("if 1 then f(1, 2) else 3", 5);
        ofAll("two(1, c + 1)", 4);
        ofAll("f(1, 2) + h", 5);
        ofAll("f(1" + ",1".repeat(3000) + ")", 5);
    }

    private static void clocks() {
        for (String wrong : new String[] {"h", "x when c", "x + h", "h + k", "current (h + k)", "current x",
            "current 1", "current f(1)", "current (pre 1)", "(x when c) when c", "h when c", "x + (x when c)",
            "current ((x when c) + (x when not c))", "if c then h else h", "if c then h else k", "x -> h", "x fby h",
            "pre h", "f(h)", "current f(h) + h", "current (h -> k)", "current current h", "current f(x)",
            "current (if c then h else h)", "1 when c"}) {
            ofAll(wrong, 6);
        }
        for (String right : new String[] {"current h", "current k", "current (h + 1)", "current (1 when c)",
            "current f(x when c)", "current f(1 when c)", "current (h -> 1)", "current (f(1) + h)", "current (pre h)",
            "current ((x + 1) when not c)", "current (if c when c then h else 1)", "f(1) + x", "1 + 2"}) {
            good(right);
        }
        String head = TWO + MAIN + "var h: int when c; k: bool when not c; l: bool when c; let y = x; b = c; ";
        Check.faultyAt(head + "l = true; @(h, k) = two(1, true); tel", 6);
        Check.faultyAt(TWO + MAIN + "var h: int when c; let y = x; @(h, b) = two(1, true); tel", 6);
        Check.faultyAt(TWO + MAIN + "let @(y, b) = two(x when c, c); tel", 6);
        Check.program(head + "k = true; (h, l) = two(1, true); tel");
        Check.program(head + "k = true; (h, l) = two(x when c, true); tel");
        ofAll("f(h) + c", 4);
        Check.faultyAt(MAIN + "let @y = x when c; b = x; tel", 6);
        Check.faultyAt(MAIN + "let @b = x; y = x when c; tel", 4);
    }

    private static void ownCauses() {
        Check.faultyAt(MAIN + "let b = c; @y = y; tel", 7);
        Check.faultyAt(MAIN + "let b = c; @y = x + y; tel", 7);
        Check.faultyAt(MAIN + "let b = x = y; @y = if b then 1 else 2; tel", 7);
        Check.program(MAIN + "let b = c; y = pre y; tel");
        Check.program(MAIN + "let b = c; y = pre (y + 1); tel");
        Check.program(MAIN + "let b = c; y = x fby y; tel");
        Check.program(MAIN + "let b = c; y = 0 -> 1 + pre y; tel");
        Check.faultyAt(MAIN + "let b = c; @y = y fby x; tel", 7);
        Check.faultyAt(MAIN + "let b = c; @y = x -> y; tel", 7);
        Check.faultyAt(MAIN + "let b = c; @y = pre x + y; tel", 7);
        Check.faultyAt(MAIN + "let b = c; @y = if c then x else y; tel", 7);
        Check.faultyAt(MAIN + "var z: int; let @z = z; y = z; b = c; tel", 7);
        Check.faultyAt(MAIN + "var z, w: int; let w = z; @z = w; y = z; b = c; tel", 7);
        Check.faultyAt(MAIN + "var h: bool when b; let y = 1; @b = current h; h = true; tel", 7);
        Check.faultyAt(MAIN + "var h: bool when c; k: bool when h; let y = 1; b = c; @h = current k; k = true; tel", 7);
        Check.program(MAIN + "var h: bool when b; let y = 1; b = true -> pre current h; h = true; tel");
        Check.faultyAt(MAIN + "var h: int when b; let @y = current h; b = y = 1; h = 1; tel", 7);
        Check.faultyAt(MAIN + "let y = 1; @b = current (c when b); tel", 7);
    }

    private static void ownCausesPutIn() {
        Check.faultyAt(F + MAIN + "let @y = f(y); b = c; tel", 7);
        Check.program(F + MAIN + "let y = pre f(y); b = c; tel");
        Check.program("node d(a: int) returns (r: int); let r = pre a; tel " + MAIN + "let y = d(y); b = c; tel");
        String inner = "node s(a: int) returns (r: int); var q: int; let r = a; @q = q; tel ";
        Check.faultyAt(inner + MAIN + "let y = s(x); b = c; tel", 7);
        Check.program(inner.replace("@", "") + MAIN + "let y = x; b = c; tel");
        String both = "node s(a, e: int) returns (r, t: int); let r = a; t = e; tel ";
        Check.program(both + MAIN + "var p: int; let (p, y) = s(x, p); b = c; tel");
        Check.faultyAt(both + MAIN + "var p: int; let b = c; @(p, y) = s(y, p); tel", 7);
        // The main's variables are free of circles here; the first that is not is one of a called node.
        String own = "node g(a: int) returns (r: int); let r = 0 -> pre a; tel ";
        String outer = "node o(a: int) returns (r: int); var v: int; let r = a; ";
        Check.program(own + outer + "v = g(v); tel " + MAIN + "let y = o(x); b = c; tel");
        Check.faultyAt(F + outer + "@v = f(f(v)); tel " + MAIN + "let y = o(x); b = c; tel", 7);
        // The call's clock brings its C to all that is put in.
        Check.faultyAt(F + "node main(x: int) returns (y: int); var p: bool; h: int when p; let y = 1;"
            + " @p = (current h) > 0; h = f(1); tel", 7);
        Check.faultyAt("node k(a: int) returns (r: bool); let r = true; tel node main(x: int) returns (y: int);"
            + " var p: bool; let y = 1; @p = current k(1 when p); tel", 7);
        Check.program("node k(a: int) returns (r: bool); let r = true; tel node main(x: int) returns (y: int);"
            + " var p: bool; let y = 1; p = pre current k(1 when p); tel");
    }
}
