import java.util.ArrayList;
import java.util.List;
import java.util.Random;
import java.util.Set;
import java.util.regex.Matcher;

/** One text spoiled at every place, and random texts, good ones and spoiled ones, by the program and by the oracle. */
public final class OracleTest {
    private static final String[] PIECES = {"(", ")", ":", ";", ",", "=", "<>", "<", "<=", ">", ">=", "+", "-", "*",
        "->", "=>", "node", "returns", "var", "let", "tel", "int", "bool", "when", "not", "and", "or", "xor", "if",
        "then", "else", "pre", "current", "fby", "div", "mod", "true", "false", "i0", "o0", "v0", "v1", "f0", "f1",
        "main", "0", "1", "999999999", "1234567890", "#", "_", "--", "\n", "\u00e9",
        "abcdefghijabcdefghijabcdefghija", "abcdefghijabcdefghijabcdefghijab"};
    private final Random random;
    private final int[] found = new int[8];
    private StreamNodes nodes = new StreamNodes();
    private long allParts;

    private OracleTest(long seed) {
        random = new Random(seed);
    }

    public static void main(String[] args) {
        int rounds = args.length > 0 ? Integer.parseInt(args[0]) : 4000;
        OracleTest test = new OracleTest(args.length > 1 ? Long.parseLong(args[1]) : 1);
        test.compareAtEveryPlace(TextTest.ALL);
        for (int i = 0; i < rounds; i++) {
            String text = new TextMaker(test.random).make();
            test.compare(text);
            for (int j = 0; j < 4; j++) {
                test.compare(test.spoiled(text));
            }
            test.compare(test.nestedText());
        }
        StringBuilder faults = new StringBuilder();
        for (int i = 0; i < test.found.length; i++) {
            faults.append(' ').append(test.found[i]);
            Check.same("some texts have fault " + i, test.found[i] > rounds / 100, true);
        }
        System.out.println("texts by fault, from 0:" + faults);
        Check.finish(OracleTest.class);
    }

    /** Each word, number and sign left out, replaced by each other one, and with each other one behind it. */
    private void compareAtEveryPlace(String text) {
        List<String> others = new ArrayList<>(List.of(PIECES));
        others.addAll(List.of("c", "x", "h", "f", "p", "q", "y", "b"));
        Matcher pieces = TextTest.PIECE.matcher(text);
        while (pieces.find()) {
            String front = text.substring(0, pieces.start());
            String behind = text.substring(pieces.end());
            compare(front + " " + behind);
            for (String other : others) {
                compare(front + " " + other + " " + behind);
                compare(front + pieces.group() + " " + other + " " + behind);
            }
        }
    }

    private String spoiled(String text) {
        List<String> parts = new ArrayList<>(List.of(text.split("(?<=[^A-Za-z0-9_])|(?=[^A-Za-z0-9_])")));
        int times = 1 + random.nextInt(2);
        for (int i = 0; i < times; i++) {
            int at = random.nextInt(parts.size());
            String piece = random.nextBoolean() ? PIECES[random.nextInt(PIECES.length)]
                : parts.get(random.nextInt(parts.size()));
            switch (random.nextInt(4)) {
                case 0: parts.set(at, " "); break;
                case 1: parts.add(at, " " + piece + " "); break;
                case 2: parts.set(at, piece); break;
                default: parts.set(at, " " + piece + " ");
            }
        }
        String made = String.join("", parts);
        return random.nextInt(20) == 0 ? made.substring(0, random.nextInt(made.length() + 1)) : made;
    }

    /** An expression that is nested about as deep, and about as high, as may be. */
    private String nestedText() {
        String front = "";
        String behind = "";
        int levels = random.nextInt(3) == 0 ? random.nextInt(10) : 34 + random.nextInt(9);
        for (int i = 0; i < levels; i++) {
            switch (random.nextInt(12)) {
                case 0: front += "("; behind = ")" + behind; break;
                case 1: front += "f("; behind = ")" + behind; break;
                case 2: front += "g(c, "; behind = ")" + behind; break;
                case 3: front += "(if c then "; behind = " else 1)" + behind; i++; break;
                case 4: front += "(if b then 2 else "; behind = ")" + behind; i++; break;
                case 5: front += "(if "; behind = " > 0 then 2 else 1)" + behind; i++; break;
                case 6: front += "(x -> "; behind = ")" + behind; i++; break;
                case 7: front += "(x fby "; behind = ")" + behind; i++; break;
                case 8: front += "- "; break;
                case 9: front += "pre "; break;
                case 10: front += "(if c => "; behind = " = 7 then x else 3)" + behind; i += 2; break;
                default: front += "g(not (b or c and ("; behind = " * 2 + 1 <= x)), x)" + behind; i += 3;
            }
        }
        String[] inner = {"x", "1", "none", "none(", "#", ")", ";", "", "true", "f(x)", "c"};
        StringBuilder chain = new StringBuilder(inner[random.nextInt(random.nextInt(3) == 0 ? inner.length : 2)]);
        if (levels < 12 || random.nextInt(4) == 0) {
            int terms = 190 + random.nextInt(20) - random.nextInt(levels + 1);
            String sign = new String[] {" + ", " - ", " * "}[random.nextInt(3)];
            for (int i = 1; i < terms; i++) {
                chain.append(sign).append("x");
            }
        }
        String[] ends = {";", "", ")", "when", " -> 1;", " x;", "#"};
        String end = random.nextInt(4) == 0 ? ends[random.nextInt(ends.length)] : ";";
        return "node f(x: int) returns (y: int); let y = x; tel"
            + " node g(c: bool; x: int) returns (y: int); let y = x; tel"
            + " node main(c: bool; x: int) returns (y: int; b: bool); let b = c; y = " + front + chain + behind + end
            + " tel";
    }

    private void compare(String text) {
        // Mostly an object that has read other texts before: none of them may be left in its rows.
        if (random.nextInt(20) == 0) {
            nodes = new StreamNodes();
            allParts = 0;
        }
        int variables = Check.read(nodes, text);
        Oracle oracle = new Oracle(text);
        int fault = 0;
        int place = 0;
        try {
            oracle.read(allParts);
        } catch (Oracle.Fault e) {
            fault = e.kind;
            place = e.place;
        }
        found[fault]++;
        if (fault == 0 || fault == 7) {
            allParts += oracle.main.parts;
        }
        if (nodes.fault(0) != fault || nodes.fault(1) != place) {
            Check.same("fault at its place of\n" + text, nodes.fault(0) * 100000L + nodes.fault(1),
                fault * 100000L + place);
            return;
        }
        Check.same("read of\n" + text, variables, fault == 0 ? oracle.variableCount() : -1);
        if (fault == 0) {
            compareCounts(text, nodes, oracle);
            compareRun(text, nodes, oracle);
        }
    }

    private static void compareCounts(String text, StreamNodes nodes, Oracle oracle) {
        Oracle.Node main = oracle.main;
        long[] due = {main.variables.size(), main.ins, main.outs, main.all, main.parts, 0, main.cells, 0,
            oracle.nodeCount()};
        for (int what = 0; what < due.length; what++) {
            Check.same("count(" + what + ") of\n" + text, nodes.count(what), due[what]);
        }
        for (int k = 0; k < main.variables.size(); k++) {
            Oracle.Variable variable = main.variables.get(k);
            int[] about = {variable.role, variable.bool ? 1 : 0, variable.clock == null ? -1 : variable.clock.c.number,
                variable.clock != null && variable.clock.so ? 1 : 0};
            for (int what = 0; what < about.length; what++) {
                Check.same("about(" + k + ", " + what + ") of\n" + text, nodes.about(k, what), about[what]);
            }
            Set<Integer> reached = oracle.reachedFrom(k, true);
            for (int b = 0; b < main.variables.size(); b++) {
                Check.same("causes(" + k + ", " + b + ") of\n" + text, nodes.causes(k, b), reached.contains(b));
            }
        }
    }

    private void compareRun(String text, StreamNodes nodes, Oracle oracle) {
        int ins = oracle.main.ins;
        List<int[]> history = new ArrayList<>();
        List<int[]> kept = new ArrayList<>();
        int[] given = new int[ins];
        for (int round = 0; round < 14; round++) {
            for (int i = 0; i < ins; i++) {
                int value = oracle.main.variables.get(i).bool ? random.nextInt(2) : number();
                Check.same("input(" + i + ")", nodes.input(i, value), given[i]);
                given[i] = value;
            }
            int ticks = 1 + random.nextInt(3);
            for (int i = 0; i < ticks; i++) {
                history.add(given.clone());
            }
            Check.same("tick", nodes.tick(ticks), history.size());
            compareValues(text, nodes, oracle, history);
            int next = random.nextInt(8);
            if (next == 0) {
                nodes.keep();
                kept = new ArrayList<>(history);
            } else if (next == 1 && !kept.isEmpty()) {
                Check.same("back", nodes.back(), history.size());
                history = new ArrayList<>(kept);
                compareValues(text, nodes, oracle, history);
            } else if (next == 2) {
                Check.same("restart", nodes.restart(), history.size());
                history.clear();
            }
        }
    }

    private int number() {
        int kind = random.nextInt(8);
        return kind == 0 ? Integer.MIN_VALUE : kind == 1 ? Integer.MAX_VALUE : kind == 2 ? random.nextInt()
            : random.nextInt(7) - 3;
    }

    private static void compareValues(String text, StreamNodes nodes, Oracle oracle, List<int[]> history) {
        oracle.run(history.toArray(new int[0][]));
        for (int k = 0; k < oracle.main.variables.size(); k++) {
            long due = oracle.value(k, history.size() - 1);
            if (nodes.value(k) != due) {
                Check.same("value(" + k + ") at instant " + history.size() + " of\n" + text, nodes.value(k), due);
            }
        }
    }
}
