import java.util.NoSuchElementException;
import java.util.function.LongSupplier;

/** What each call changes and what it leaves, at the edges: promises 4 and 6 to 14. */
public final class StateTest {
    private static final Class<IllegalStateException> STATE = IllegalStateException.class;
    private static final Class<IllegalArgumentException> ARGUMENT = IllegalArgumentException.class;
    private static final Class<NoSuchElementException> ELEMENT = NoSuchElementException.class;
    private static final long NONE = 1L << 40;
    private static final int LOW = Integer.MIN_VALUE;
    private static final int HIGH = Integer.MAX_VALUE;
    private static final int[] FAR = {LOW, LOW + 1, -1000, -1, 1000, HIGH - 1, HIGH};
    /** c, x; s, t; h, k: with a state of each kind. */
    private static final String GOOD = "node m(c: bool; x: int) returns (s, t: int); var h: int when c; k: bool when"
        + " not c; let s = x + (0 -> pre s); t = current h; h = 10 fby h + 1; k = pre true; tel";
    private static final int INS = 2;
    private static final int ALL = 6;
    /** Good and faulty texts of all kinds, each of which may be read behind any other. */
    private static final String[] TEXTS = {GOOD, TextTest.ALL, "", "#",
        "node m(x: int) returns (y: int); let y = x; tel", "node m(x: bool) returns (y: bool); let y = not x; tel",
        "node m(x: int) returns (y: int); let y = y; tel", "node m(x: int) returns (y: int); let y = true; tel",
        "node m(x: int) returns (y: int); let y = ((((x + 1", "node m(x: int) returns (y: int); let y = m(1); tel",
        "node f(x: int) returns (y: int); let y = 5 fby x; tel node m(c: bool; a, b: int) returns (y: int);"
            + " var h: int when c; let h = f(a when c) + f(1); y = f(f(b)) -> current h; tel",
        "node f(x: bool) returns (y, z: bool); let y = x; z = pre x; tel node m(c, d: bool) returns (y, z: bool);"
            + " let (y, z) = f(c -> d); tel",
        "node m(c: bool; d: bool) returns (y: int); var e: bool when c; h: int when not e; let e = d when c;"
            + " h = 1 -> 2; y = current current h; tel",
        "node m(x: int) returns (y: int); var c: bool; let c = x > 0; y = current (x when c); tel",
        "node f(x: int) returns (y: int); let y = y; tel node m(x: int) returns (y, z: int); let z = f(x); y = x; tel",
        "node m(x: int) returns (y: int); var v, w: int; let v = 1; w = v; y = w; tel",
        "node m(x: int) returns (y: int); let y = " + "- ".repeat(41) + "x; tel",
        "node m(c: bool) returns (y: int); let y = f(c); tel", "node m(f: int) returns (node: int); let"};

    private StateTest() {
    }

    public static void main(String[] args) {
        readAfterRead();
        readAfterClocks();
        textIsGone();
        inputsAfterRead();
        instantsAfterRead();
        keptAfterRead();
        withoutProgram();
        noSuchInput();
        wrongBool();
        inputFromNowOn();
        wrongTicks();
        ticks();
        noSuchValue();
        valueWithoutInstant();
        latestInstant();
        noSuchAbout();
        otherAbout();
        noSuchCause();
        restartAtTheFirst();
        restartLeaves();
        keepWithoutInstant();
        keepForgets();
        backWithoutKept();
        backAsKept();
        backLeavesInputs();
        backAfterRestart();
        counts();
        countsWithoutProgram();
        otherCounts();
        Check.finish(StateTest.class);
    }

    private static StreamNodes program() {
        return Check.program(GOOD);
    }

    private static long kept(StreamNodes nodes) {
        nodes.keep();
        return 0;
    }

    /** All that can be seen of an object without a change of it, but for what is kept. */
    private static String picture(StreamNodes nodes) {
        StringBuilder seen = new StringBuilder();
        for (int what = 0; what <= 8; what++) {
            seen.append(nodes.count(what)).append(' ');
        }
        seen.append(nodes.fault(0)).append(' ').append(nodes.fault(1)).append('|');
        int variables = nodes.count(0);
        for (int k = 0; k < variables; k++) {
            seen.append(nodes.count(5) == 0 ? "-" : "" + nodes.value(k)).append(' ');
            for (int what = 0; what < 4; what++) {
                seen.append(nodes.about(k, what)).append(' ');
            }
            for (int b = 0; b < variables; b++) {
                seen.append(nodes.causes(k, b) ? '1' : '0');
            }
        }
        for (int i = 0; i < nodes.count(1); i++) {
            int value = nodes.input(i, 0);
            nodes.input(i, value);
            seen.append('|').append(value);
        }
        return seen.toString();
    }

    private static void refused(String what, StreamNodes nodes, Class<? extends RuntimeException> due,
        LongSupplier call) {
        String before = picture(nodes);
        Check.raises(what, due, call);
        Check.same(what + " changes nothing: " + before, picture(nodes).equals(before), true);
    }

    /** Some instants of it and all that is seen at them. */
    private static String played(StreamNodes nodes) {
        StringBuilder seen = new StringBuilder(picture(nodes));
        for (int i = 0; i < 9 && nodes.count(8) > 0; i++) {
            for (int j = 0; j < nodes.count(1); j++) {
                nodes.input(j, nodes.about(j, 1) == 1 ? (i * i + j) / 2 % 2 : i * 7 - j);
            }
            seen.append('\n').append(nodes.tick(1 + i % 2));
            for (int k = 0; k < nodes.count(0); k++) {
                seen.append(' ').append(nodes.value(k));
            }
        }
        return seen.toString();
    }

    private static void readAfterRead() {
        Check.sentence("The program before is gone; the TAPE is the TEXT (and empty then)");
        for (String first : TEXTS) {
            for (String second : TEXTS) {
                StreamNodes nodes = new StreamNodes();
                Check.read(nodes, first);
                played(nodes);
                if (nodes.count(8) > 0) {
                    nodes.keep();
                }
                StreamNodes other = new StreamNodes();
                Check.same("read of " + second + " behind " + first, Check.read(nodes, second),
                    Check.read(other, second));
                String due = played(other);
                String got = played(nodes);
                Check.same("what " + second + " does behind " + first + ": " + got + " for " + due, got.equals(due),
                    true);
            }
        }
    }

    private static String names(String letter, int from, int to) {
        StringBuilder names = new StringBuilder(letter + from);
        for (int i = from + 1; i <= to; i++) {
            names.append(", ").append(letter).append(i);
        }
        return names.toString();
    }

    /** Clocks leave the most behind: many of them, and deep ones, ahead of texts with other variables there. */
    private static void readAfterClocks() {
        Check.sentence("The program before is gone");
        StringBuilder deep = new StringBuilder("node m(c0: bool) returns (y: int); var ");
        StringBuilder wide = new StringBuilder("node w(x: int) returns (y: int); var " + names("c", 0, 19)
            + ": bool; let y = 0");
        StringBuilder bases = new StringBuilder("node m(" + names("c", 0, 19) + ": bool) returns (y: int); let y = 0");
        for (int i = 0; i < 20; i++) {
            wide.append(" + current (x when c").append(i).append(")");
            bases.append(" + current (").append(i).append(" when not c").append(i).append(")");
        }
        wide.append("; ");
        for (int i = 0; i < 20; i++) {
            wide.append("c").append(i).append(" = x > ").append(i).append("; ");
        }
        for (int i = 1; i <= 8; i++) {
            deep.append("c").append(i).append(": bool when c").append(i - 1).append("; ");
        }
        deep.append("let y = 1; ");
        for (int i = 1; i <= 8; i++) {
            deep.append("c").append(i).append(" = true; ");
        }
        String calls = "tel node m(x: int) returns (y: int); let y = w(x)" + " + w(x)".repeat(11) + "; tel";
        String plain = "node w(x: int) returns (y: int); let y = pre x; tel node m(x: int) returns (y: int); let"
            + " y = w(x)" + " + w(x)".repeat(140) + "; tel";
        String[] texts = {deep + "tel", wide + calls, bases + "; tel", plain, GOOD};
        for (String first : texts) {
            for (String second : texts) {
                StreamNodes nodes = new StreamNodes();
                Check.read(nodes, first);
                played(nodes);
                StreamNodes other = Check.program(second);
                Check.read(nodes, second);
                Check.same(second + " behind " + first, played(nodes).equals(played(other)), true);
            }
        }
    }

    private static void textIsGone() {
        Check.sentence("the TAPE is the TEXT (and empty then)");
        StreamNodes nodes = new StreamNodes();
        Check.feed(nodes, GOOD);
        Check.same("read", nodes.read(), ALL);
        Check.same("count(7)", nodes.count(7), 0);
        Check.same("read again", nodes.read(), -1);
        Check.same("its fault", nodes.fault(0), 1);
        Check.same("its place", nodes.fault(1), 0);
        // The TAPE does not touch the program while it is filled.
        Check.read(nodes, GOOD);
        nodes.input(1, 4);
        nodes.tick(2);
        Check.feed(nodes, "# and no program");
        nodes.tick(1);
        Check.same("the program goes on", nodes.value(2), 12);
        Check.same("read of what is none", nodes.read(), -1);
        Check.same("count(7)", nodes.count(7), 0);
    }

    private static void inputsAfterRead() {
        Check.sentence("inputs are 0 and false");
        StreamNodes nodes = program();
        for (int i = 0; i < 3; i++) {
            Check.same("input(0, 1)", nodes.input(0, 1), 0);
            Check.same("input(1, -9)", nodes.input(1, -9), 0);
            nodes.tick(1);
            Check.read(nodes, GOOD);
        }
        nodes.tick(1);
        Check.same("value(0) without an input", nodes.value(0), 0);
        Check.same("value(1) without an input", nodes.value(1), 0);
    }

    private static void instantsAfterRead() {
        Check.sentence("no INSTANT was");
        StreamNodes nodes = program();
        nodes.input(1, 3);
        nodes.tick(10);
        Check.read(nodes, GOOD);
        Check.same("count(5)", nodes.count(5), 0);
        Check.raises("value(0)", STATE, () -> nodes.value(0));
        Check.raises("keep", STATE, () -> kept(nodes));
        Check.same("restart", nodes.restart(), 0);
        nodes.input(1, 3);
        Check.same("tick(1)", nodes.tick(1), 1);
        Check.same("s at its first instant", nodes.value(2), 3);
    }

    private static void keptAfterRead() {
        Check.sentence("nothing is kept");
        for (String text : new String[] {GOOD, "", "#", "node m(x: int) returns (y: int); let y = y; tel"}) {
            StreamNodes nodes = program();
            nodes.tick(2);
            nodes.keep();
            Check.read(nodes, text);
            Check.raises("back", STATE, () -> nodes.back());
            Check.read(nodes, GOOD);
            Check.raises("back", STATE, () -> nodes.back());
            nodes.tick(1);
            Check.raises("back behind an instant", STATE, () -> nodes.back());
            Check.same("count(5)", nodes.count(5), 1);
        }
    }

    private static void withoutProgram() {
        Check.sentence("-1: a FAULT, there is no program");
        for (String text : TEXTS) {
            StreamNodes nodes = program();
            nodes.tick(3);
            nodes.keep();
            if (Check.read(nodes, text) > 0) {
                continue;
            }
            refused("input(0, 0)", nodes, ELEMENT, () -> nodes.input(0, 0));
            refused("input(0, 2)", nodes, ELEMENT, () -> nodes.input(0, 2));
            refused("tick(1)", nodes, STATE, () -> nodes.tick(1));
            refused("tick(1000)", nodes, STATE, () -> nodes.tick(1000));
            refused("value(0)", nodes, ELEMENT, () -> nodes.value(0));
            refused("about(0, 0)", nodes, ELEMENT, () -> nodes.about(0, 0));
            refused("about(0, 4)", nodes, ELEMENT, () -> nodes.about(0, 4));
            refused("causes(0, 0)", nodes, ELEMENT, () -> nodes.causes(0, 0) ? 1 : 0);
            refused("restart", nodes, STATE, () -> nodes.restart());
            refused("keep", nodes, STATE, () -> kept(nodes));
            refused("back", nodes, STATE, () -> nodes.back());
        }
    }

    private static void noSuchInput() {
        Check.sentence("input: NoSuchElementException: there is none");
        StreamNodes nodes = program();
        nodes.tick(1);
        for (int i : new int[] {-1, INS, INS + 1, ALL - 1, ALL, 99, LOW, HIGH}) {
            refused("input(" + i + ", 0)", nodes, ELEMENT, () -> nodes.input(i, 0));
            refused("input(" + i + ", 7)", nodes, ELEMENT, () -> nodes.input(i, 7));
        }
        Check.same("the last one", nodes.input(INS - 1, 5), 0);
        Check.same("the first one", nodes.input(0, 1), 0);
    }

    private static void wrongBool() {
        Check.sentence("input: IllegalArgumentException: not 0 or 1 for a bool");
        StreamNodes nodes = program();
        for (int before = 0; before <= 1; before++) {
            nodes.input(0, before);
            for (int value : new int[] {2, 3, -1, -2, 256, LOW, LOW + 1, HIGH}) {
                refused("input(0, " + value + ")", nodes, ARGUMENT, () -> nodes.input(0, value));
            }
            Check.same("what it was", nodes.input(0, before), before);
        }
        for (int value : new int[] {2, -1, LOW, HIGH, 0, 1}) {
            nodes.input(1, value);
            Check.same("an int may be " + value, nodes.input(1, value), value);
        }
    }

    private static void inputFromNowOn() {
        Check.sentence("Input i of the MAIN is that from now on: what it was");
        StreamNodes nodes = program();
        Check.same("the first", nodes.input(1, 5), 0);
        Check.same("again ahead of an instant", nodes.input(1, 6), 5);
        nodes.tick(1);
        Check.same("value(1)", nodes.value(1), 6);
        nodes.input(1, 7);
        Check.same("value(1) is that of the latest instant", nodes.value(1), 6);
        nodes.tick(1000);
        Check.same("value(1) after many", nodes.value(1), 7);
        Check.same("s after many", nodes.value(2), 6 + 7000);
        Check.same("what it was", nodes.input(1, 0), 7);
    }

    private static void wrongTicks() {
        Check.sentence("tick: n INSTANTS, 1 .. 1,000; IllegalArgumentException: another n");
        StreamNodes nodes = program();
        StreamNodes none = new StreamNodes();
        for (int round = 0; round < 2; round++) {
            for (int n : new int[] {0, -1, 1001, 1002, -1000, LOW, HIGH}) {
                refused("tick(" + n + ")", nodes, ARGUMENT, () -> nodes.tick(n));
                refused("tick(" + n + ") without a program", none, ARGUMENT, () -> none.tick(n));
            }
            nodes.input(1, 2);
            nodes.tick(3);
        }
        Check.same("s after two times three", nodes.value(2), 12);
    }

    private static void ticks() {
        Check.sentence("tick: n INSTANTS, 1 .. 1,000: how many there were in all");
        StreamNodes nodes = program();
        StreamNodes other = program();
        nodes.input(1, 3);
        other.input(1, 3);
        Check.same("tick(1)", nodes.tick(1), 1);
        Check.same("tick(999)", nodes.tick(999), 1000);
        Check.same("tick(1000)", nodes.tick(1000), 2000);
        Check.same("tick(2)", nodes.tick(2), 2002);
        for (int i = 0; i < 286; i++) {
            other.tick(7);
        }
        Check.same("the same by sevens", picture(other).equals(picture(nodes)), true);
        Check.same("s", nodes.value(2), 3 * 2002);
    }

    private static void noSuchValue() {
        Check.sentence("value: NoSuchElementException: there is none");
        StreamNodes nodes = program();
        for (int round = 0; round < 2; round++) {
            for (int k : new int[] {-1, ALL, ALL + 1, 98, 99, 100, LOW, HIGH}) {
                refused("value(" + k + ")", nodes, ELEMENT, () -> nodes.value(k));
            }
            nodes.tick(1);
        }
        Check.same("the last one", nodes.value(ALL - 1), 1);
        // Those of called nodes are none of the main's.
        StreamNodes calls = Check.program("node f(a: int) returns (r: int); let r = a; tel node m(x: int) returns (y:"
            + " int); let y = f(x); tel");
        calls.tick(1);
        Check.same("variables as put in", calls.count(3), 4);
        refused("value(2)", calls, ELEMENT, () -> calls.value(2));
        refused("about(2, 0)", calls, ELEMENT, () -> calls.about(2, 0));
        refused("causes(2, 0)", calls, ELEMENT, () -> calls.causes(2, 0) ? 1 : 0);
        refused("causes(0, 2)", calls, ELEMENT, () -> calls.causes(0, 2) ? 1 : 0);
    }

    private static void valueWithoutInstant() {
        Check.sentence("value: IllegalStateException: no INSTANT was");
        StreamNodes nodes = program();
        for (int round = 0; round < 2; round++) {
            for (int k = 0; k < ALL; k++) {
                int variable = k;
                refused("value(" + k + ")", nodes, STATE, () -> nodes.value(variable));
            }
            nodes.tick(5);
            nodes.restart();
        }
    }

    private static void latestInstant() {
        Check.sentence("What VARIABLE k of the MAIN had at the latest INSTANT (bool: 1 is true); 2^40 if that was"
            + " none of its CLOCK");
        StreamNodes nodes = program();
        nodes.input(0, 1);
        nodes.input(1, LOW);
        nodes.tick(1);
        long[] due = {1, LOW, LOW, 10, 10, NONE};
        for (int k = 0; k < ALL; k++) {
            Check.same("value(" + k + ")", nodes.value(k), due[k]);
        }
        nodes.input(0, 0);
        nodes.input(1, HIGH);
        nodes.tick(2);
        long[] then = {0, HIGH, HIGH - 1, 10, NONE, 1};
        for (int k = 0; k < ALL; k++) {
            Check.same("value(" + k + ") then", nodes.value(k), then[k]);
            Check.same("value(" + k + ") asked twice", nodes.value(k), then[k]);
        }
    }

    private static void noSuchAbout() {
        Check.sentence("about: NoSuchElementException: there is none");
        StreamNodes nodes = program();
        for (int k : new int[] {-1, ALL, ALL + 1, 99, LOW, HIGH}) {
            for (int what : new int[] {0, 1, 2, 3, 4, -1, LOW, HIGH}) {
                refused("about(" + k + ", " + what + ")", nodes, ELEMENT, () -> nodes.about(k, what));
            }
        }
    }

    private static void otherAbout() {
        Check.sentence("about: what 0 .. 3; IllegalArgumentException: another what");
        StreamNodes nodes = program();
        int[][] due = {{0, 1, -1, 0}, {0, 0, -1, 0}, {1, 0, -1, 0}, {1, 0, -1, 0}, {2, 0, 0, 1}, {2, 1, 0, 0}};
        for (int k = 0; k < ALL; k++) {
            int variable = k;
            for (int what = 0; what < 4; what++) {
                Check.same("about(" + k + ", " + what + ")", nodes.about(k, what), due[k][what]);
            }
            for (int what : new int[] {-1, 4, 5, LOW, HIGH}) {
                refused("about(" + k + ", " + what + ")", nodes, ARGUMENT, () -> nodes.about(variable, what));
            }
        }
    }

    private static void noSuchCause() {
        Check.sentence("causes: NoSuchElementException: there is none");
        StreamNodes nodes = program();
        for (int k : new int[] {-1, ALL, ALL + 1, 99, LOW, HIGH}) {
            for (int other : new int[] {0, ALL - 1, k}) {
                refused("causes(" + k + ", " + other + ")", nodes, ELEMENT, () -> nodes.causes(k, other) ? 1 : 0);
                refused("causes(" + other + ", " + k + ")", nodes, ELEMENT, () -> nodes.causes(other, k) ? 1 : 0);
            }
        }
        Check.sentence("Whether VARIABLE a of the MAIN is, or has among its CAUSES and theirs, VARIABLE b");
        String[] due = {"100000", "010000", "011000", "100110", "100010", "100001"};
        for (int a = 0; a < ALL; a++) {
            for (int b = 0; b < ALL; b++) {
                Check.same("causes(" + a + ", " + b + ")", nodes.causes(a, b), due[a].charAt(b) == '1');
            }
        }
    }

    private static void restartAtTheFirst() {
        Check.sentence("The program is as it was before its first INSTANT: how many there had been");
        StreamNodes nodes = program();
        StreamNodes other = program();
        Check.same("restart ahead of the first", nodes.restart(), 0);
        Check.same("restart again", nodes.restart(), 0);
        for (int i = 1; i <= 3; i++) {
            nodes.input(0, 1);
            nodes.input(1, 100);
            nodes.tick(i);
            nodes.input(0, 0);
            nodes.input(1, 0);
            Check.same("restart behind " + i, nodes.restart(), i);
            Check.same("count(5)", nodes.count(5), 0);
            Check.same("restart twice", nodes.restart(), 0);
            Check.same("it is as a new one", picture(nodes).equals(picture(other)), true);
        }
        nodes.tick(1000);
        Check.same("restart behind 1,000", nodes.restart(), 1000);
        Check.same("it runs as a new one", played(nodes).equals(played(other)), true);
    }

    private static void restartLeaves() {
        Check.sentence("restart: inputs and what is kept stay");
        StreamNodes nodes = program();
        nodes.input(0, 1);
        nodes.input(1, 8);
        nodes.tick(2);
        nodes.keep();
        nodes.restart();
        nodes.restart();
        Check.same("input(0)", nodes.input(0, 1), 1);
        Check.same("input(1)", nodes.input(1, 8), 8);
        nodes.tick(1);
        Check.same("s with the input", nodes.value(2), 8);
        nodes.restart();
        Check.same("back", nodes.back(), 0);
        Check.same("s as kept", nodes.value(2), 16);
        Check.same("count(5)", nodes.count(5), 2);
    }

    private static void keepWithoutInstant() {
        Check.sentence("keep: IllegalStateException: no program, or no INSTANT was");
        StreamNodes nodes = program();
        refused("keep ahead of the first instant", nodes, STATE, () -> kept(nodes));
        Check.raises("nothing is kept by it", STATE, () -> nodes.back());
        nodes.input(1, 2);
        nodes.tick(3);
        nodes.keep();
        nodes.restart();
        refused("keep behind restart", nodes, STATE, () -> kept(nodes));
        Check.same("what was kept stays", nodes.back(), 0);
        Check.same("s as kept", nodes.value(2), 6);
        StreamNodes none = new StreamNodes();
        refused("keep of a new object", none, STATE, () -> kept(none));
    }

    private static void keepForgets() {
        Check.sentence("The state is kept; what was kept before is gone");
        StreamNodes nodes = program();
        nodes.input(1, 1);
        for (int i = 1; i <= 4; i++) {
            nodes.tick(1);
            nodes.keep();
        }
        nodes.tick(5);
        Check.same("back", nodes.back(), 9);
        Check.same("s", nodes.value(2), 4);
        nodes.keep();
        nodes.tick(1);
        nodes.back();
        Check.same("keep of what is as it was kept", nodes.value(2), 4);
        nodes.restart();
        nodes.tick(1);
        nodes.keep();
        nodes.tick(50);
        nodes.back();
        Check.same("s as kept behind restart", nodes.value(2), 1);
        Check.same("count(5)", nodes.count(5), 1);
    }

    private static void backWithoutKept() {
        Check.sentence("back: IllegalStateException: nothing is kept");
        StreamNodes none = new StreamNodes();
        refused("back of a new object", none, STATE, () -> none.back());
        StreamNodes nodes = program();
        refused("back ahead of the first instant", nodes, STATE, () -> nodes.back());
        nodes.tick(4);
        refused("back behind instants", nodes, STATE, () -> nodes.back());
        nodes.restart();
        refused("back behind restart", nodes, STATE, () -> nodes.back());
    }

    private static void backAsKept() {
        Check.sentence("The state is that which was kept of this program; values are those of the latest INSTANT as"
            + " it is kept, too: how many INSTANTS there had been ahead of this call");
        for (int ahead = 1; ahead <= 6; ahead++) {
            StreamNodes nodes = program();
            for (int i = 0; i < ahead; i++) {
                nodes.input(0, i % 3 == 1 ? 1 : 0);
                nodes.input(1, i + 1);
                nodes.tick(1);
            }
            nodes.keep();
            String due = picture(nodes);
            String dueLater = later(nodes);
            for (int round = 0; round < 3; round++) {
                Check.same("back", nodes.back(), ahead + 8);
                nodes.input(0, (ahead - 1) % 3 == 1 ? 1 : 0);
                nodes.input(1, ahead);
                Check.same("as it was kept", picture(nodes).equals(due), true);
                Check.same("it goes on as it did", later(nodes).equals(dueLater), true);
            }
        }
    }

    private static String later(StreamNodes nodes) {
        StringBuilder seen = new StringBuilder();
        for (int i = 0; i < 8; i++) {
            nodes.input(0, i % 3 == 0 ? 1 : 0);
            nodes.input(1, i * 5);
            nodes.tick(1);
            for (int k = 0; k < ALL; k++) {
                seen.append(nodes.value(k)).append(' ');
            }
        }
        return seen.toString();
    }

    private static void backLeavesInputs() {
        Check.sentence("back: inputs stay");
        StreamNodes nodes = program();
        nodes.input(0, 1);
        nodes.input(1, 5);
        nodes.tick(1);
        nodes.keep();
        nodes.input(0, 0);
        nodes.input(1, 6);
        Check.same("back", nodes.back(), 1);
        Check.same("value(1) as kept", nodes.value(1), 5);
        Check.same("value(0) as kept", nodes.value(0), 1);
        Check.same("input(0)", nodes.input(0, 0), 0);
        Check.same("input(1)", nodes.input(1, 6), 6);
        nodes.tick(1);
        Check.same("s with the later input", nodes.value(2), 11);
    }

    private static void backAfterRestart() {
        Check.sentence("back: how many INSTANTS there had been ahead of this call");
        StreamNodes nodes = program();
        nodes.tick(7);
        nodes.keep();
        Check.same("at once", nodes.back(), 7);
        nodes.tick(1000);
        Check.same("behind more", nodes.back(), 1007);
        nodes.restart();
        Check.same("behind restart", nodes.back(), 0);
        Check.same("tick(1)", nodes.tick(1), 8);
        Check.same("behind one", nodes.back(), 8);
        nodes.restart();
        nodes.tick(2);
        Check.same("behind fewer than kept", nodes.back(), 2);
        Check.same("count(5)", nodes.count(5), 7);
    }

    private static void counts() {
        Check.sentence("0 VARIABLES of the MAIN; 1 its inputs; 2 its outputs; 3 VARIABLES as PUT IN; 4 PARTS of the"
            + " TEXT; 5 INSTANTS; 6 how many pre, fby, -> (fby counts for two) and current as PUT IN; 7 the TAPE's"
            + " length; 8 NODES");
        due(GOOD, 6, 2, 2, 6, 4 + 6 + 2 + 5 + 2, 0, 1 + 1 + 1 + 2 + 1, 0, 1);
        String f = "node f(a, e: int) returns (r: int); var v: int; let r = a fby e; v = pre a; tel ";
        String g = "node g(a: int) returns (r: int); let r = f(a, 1) -> f(2, a); tel ";
        // Each f: 2 equations, 3 and 2 parts; three memories.
        int ofF = 2 + 3 + 2;
        int ofG = 1 + 7 + 2 * ofF;
        due(f + g + "node m(x: int) returns (y: int); let y = x; tel", 2, 1, 1, 2, 2, 0, 0, 0, 3);
        due(f + g + "node m(x: int) returns (y: int); let y = f(x, x); tel", 2, 1, 1, 6, 1 + 3 + ofF, 0, 3, 0, 3);
        due(f + g + "node m(x: int) returns (y, z: int); let y = g(x); z = g(g(y)); tel", 3, 1, 2, 3 + 3 * (2 + 2 * 4),
            2 + 2 + 3 + 3 * ofG, 0, 3 * (1 + 2 * 3), 0, 3);
        for (String[] row : new String[][] {{"pre x", "1"}, {"x -> 1", "1"}, {"x fby 1", "2"},
            {"current (x when c)", "1"}, {"- x", "0"}, {"pre pre x", "2"}, {"1 -> 2 -> 3", "2"}, {"1 fby 2 fby 3", "4"},
            {"if c then x else 1", "0"}}) {
            StreamNodes nodes = Check.program("node m(c: bool; x: int) returns (y: int); let y = " + row[0] + "; tel");
            Check.same("count(6) of " + row[0], nodes.count(6), Integer.parseInt(row[1]));
        }
        StreamNodes nodes = program();
        for (int i = 1; i < 5; i++) {
            nodes.tick(i);
            nodes.feed(1, 2, 3, 4, 5);
            Check.same("count(5)", nodes.count(5), i * (i + 1) / 2);
            Check.same("count(7)", nodes.count(7), 20 * i);
        }
    }

    private static void due(String text, int... counts) {
        StreamNodes nodes = Check.program(text);
        for (int what = 0; what < counts.length; what++) {
            Check.same("count(" + what + ") of " + text, nodes.count(what), counts[what]);
        }
    }

    private static void countsWithoutProgram() {
        Check.sentence("0 to 6 and 8 are 0 without a program");
        StreamNodes nodes = new StreamNodes();
        for (String text : new String[] {"", "#", "node m(x: int) returns (y: int); let y = y; tel", GOOD + "#",
            GOOD.replace("t = current h", "t = true"), GOOD.replace("t = current h;", "")}) {
            Check.feed(nodes, text);
            for (int what = 0; what <= 8; what++) {
                Check.same("count(" + what + ")", nodes.count(what), what == 7 ? text.length() : 0);
            }
            Check.same("read", nodes.read(), -1);
            for (int what = 0; what <= 8; what++) {
                Check.same("count(" + what + ")", nodes.count(what), 0);
            }
            // A program between them, which goes with the next one.
            Check.read(nodes, GOOD);
            nodes.tick(4);
            Check.same("count(5)", nodes.count(5), 4);
            nodes.read();
        }
    }

    private static void otherCounts() {
        Check.sentence("count: Else -1");
        StreamNodes nodes = new StreamNodes();
        for (int round = 0; round < 2; round++) {
            for (int what : FAR) {
                Check.same("count(" + what + ")", nodes.count(what), -1);
            }
            for (int what : new int[] {9, 10, 16, 256}) {
                Check.same("count(" + what + ")", nodes.count(what), -1);
            }
            Check.read(nodes, GOOD);
            nodes.tick(3);
        }
    }
}
