import java.util.ArrayList;
import java.util.HashMap;
import java.util.HashSet;
import java.util.LinkedHashMap;
import java.util.List;
import java.util.Map;
import java.util.Set;

/**
 * The document told once more, in another way than the program: the grammar as methods that call one another, trees,
 * and values that are asked for by instant, each found from those of earlier instants, with no order and no state.
 */
final class Oracle {
    static final long ABSENT = 1L << 40;
    private static final Set<String> KEYWORDS = Set.of("node", "returns", "var", "let", "tel", "int", "bool", "when",
        "not", "and", "or", "xor", "if", "then", "else", "pre", "current", "fby", "div", "mod", "true", "false");
    private static final List<String> SIGNS = List.of("<>", "<=", ">=", "->", "=>", "(", ")", ":", ";", ",", "=", "<",
        ">", "+", "-", "*");

    static final class Fault extends RuntimeException {
        private static final long serialVersionUID = 1L;
        final int kind;
        final int place;

        Fault(int kind, int place) {
            this.kind = kind;
            this.place = place;
        }
    }

    private static final class Token {
        final String kind;
        final String text;
        final int place;

        Token(String kind, String text, int place) {
            this.kind = kind;
            this.text = text;
            this.place = place;
        }
    }

    static final class Clock {
        final Variable c;
        final boolean so;

        Clock(Variable c, boolean so) {
            this.c = c;
            this.so = so;
        }

        static boolean same(Clock x, Clock y) {
            return x == y || x != null && y != null && x.c == y.c && x.so == y.so;
        }
    }

    static final class Variable {
        String name;
        boolean bool;
        int role;
        int number;
        Clock clock;
        int defined;
        Equation equation;

        int deep() {
            return clock == null ? 0 : 1 + clock.c.deep();
        }
    }

    private static final class Expression {
        String kind;
        int number;
        Variable variable;
        Clock clock;
        Node called;
        List<Expression> sides = new ArrayList<>();
        int height = 1;
        boolean any;
        Clock on;
    }

    static final class Equation {
        int place;
        List<Variable> lefts = new ArrayList<>();
        private Expression right;
    }

    static final class Node {
        String name;
        List<Variable> variables = new ArrayList<>();
        Map<String, Variable> byName = new HashMap<>();
        List<Equation> equations = new ArrayList<>();
        int ins;
        int outs;
        long parts;
        long all;
        long cells;
    }

    /** A node as it is put in. */
    private static final class Instance {
        Node node;
        Instance around;
        Expression call;
        Map<Expression, Instance> calls = new LinkedHashMap<>();
        int base;
        int callPlace;
    }

    private final String text;
    private final List<Token> tokens = new ArrayList<>();
    private int now;
    private final Map<String, Node> nodes = new LinkedHashMap<>();
    private Node node;
    Node main;
    private Instance top;
    private final List<Instance> owner = new ArrayList<>();
    private final List<Variable> putIn = new ArrayList<>();
    private final List<Set<Integer>> causes = new ArrayList<>();
    private final List<Map<Integer, Integer>> memory = new ArrayList<>();
    private int[][] inputs;

    Oracle(String text) {
        this.text = text;
    }

    int nodeCount() {
        return nodes.size();
    }

    int variableCount() {
        return putIn.size();
    }

    void read(long allPartsBefore) {
        scan();
        do {
            readNode();
        } while (!now().kind.equals("end"));
        if (main.parts > 3000 || main.all > 6000 || allPartsBefore + main.parts > 30000) {
            throw new Fault(3, text.length());
        }
        top = put(main, null, null, 0);
        for (int i = 0; i < putIn.size(); i++) {
            causes.add(new HashSet<>());
            memory.add(new HashMap<>());
        }
        findCauses(top);
        for (int i = 0; i < putIn.size(); i++) {
            if (reachedFrom(i, false).contains(i)) {
                throw new Fault(7, placeOf(i));
            }
        }
    }

    private int placeOf(int i) {
        Variable variable = putIn.get(i);
        return variable.role == 0 ? owner.get(i).callPlace : variable.equation.place;
    }

    private void scan() {
        int at = 0;
        while (at < text.length()) {
            char sign = text.charAt(at);
            int end = at + 1;
            String kind = null;
            if (sign == ' ' || sign == '\t' || sign == '\n' || sign == '\r') {
                at++;
                continue;
            }
            if (text.startsWith("--", at)) {
                int line = text.indexOf('\n', at);
                at = line < 0 ? text.length() : line;
                continue;
            }
            if (letter(sign)) {
                while (end < text.length() && (letter(text.charAt(end)) || digit(text.charAt(end))
                    || text.charAt(end) == '_')) {
                    end++;
                }
                String word = text.substring(at, end);
                kind = word.length() > 31 ? "bad" : KEYWORDS.contains(word) ? word : "name";
            } else if (digit(sign)) {
                while (end < text.length() && digit(text.charAt(end))) {
                    end++;
                }
                kind = end - at > 9 ? "bad" : "number";
            } else {
                for (String candidate : SIGNS) {
                    if (kind == null && text.startsWith(candidate, at)) {
                        kind = candidate;
                        end = at + candidate.length();
                    }
                }
            }
            tokens.add(new Token(kind == null ? "bad" : kind, text.substring(at, end), at));
            at = end;
        }
        tokens.add(new Token("end", "", text.length()));
    }

    private static boolean letter(char sign) {
        return sign >= 'a' && sign <= 'z' || sign >= 'A' && sign <= 'Z';
    }

    private static boolean digit(char sign) {
        return sign >= '0' && sign <= '9';
    }

    private Token now() {
        return tokens.get(now);
    }

    private boolean at(String... kinds) {
        for (String kind : kinds) {
            if (now().kind.equals(kind)) {
                return true;
            }
        }
        return false;
    }

    private Token take(String... kinds) {
        if (!at(kinds)) {
            throw new Fault(1, now().place);
        }
        now++;
        return tokens.get(now - 1);
    }

    private void readNode() {
        if (at("node") && nodes.size() == 59) {
            throw new Fault(3, now().place);
        }
        take("node");
        Token name = take("name");
        if (nodes.containsKey(name.text)) {
            throw new Fault(2, name.place);
        }
        node = new Node();
        node.name = name.text;
        take("(");
        readGroups(0);
        take(")");
        node.ins = node.variables.size();
        take("returns");
        take("(");
        readGroups(1);
        take(")");
        node.outs = node.variables.size() - node.ins;
        take(";");
        if (at("var")) {
            now++;
            do {
                readGroup(2);
                take(";");
            } while (at("name"));
        }
        take("let");
        do {
            readEquation();
        } while (!at("tel"));
        checkNode();
        take("tel");
        nodes.put(node.name, node);
        main = node;
    }

    private void readGroups(int role) {
        readGroup(role);
        while (at(";")) {
            now++;
            readGroup(role);
        }
    }

    private void readGroup(int role) {
        List<Variable> group = new ArrayList<>();
        Set<Variable> before = new HashSet<>(node.variables);
        do {
            if (!group.isEmpty()) {
                now++;
            }
            Token name = take("name");
            if (node.byName.containsKey(name.text)) {
                throw new Fault(2, name.place);
            }
            if (node.variables.size() == 99) {
                throw new Fault(3, name.place);
            }
            Variable variable = new Variable();
            variable.name = name.text;
            variable.role = role;
            variable.number = node.variables.size();
            node.variables.add(variable);
            node.byName.put(name.text, variable);
            group.add(variable);
        } while (at(","));
        take(":");
        boolean bool = take("int", "bool").kind.equals("bool");
        for (Variable variable : group) {
            variable.bool = bool;
        }
        if (role == 2 && at("when")) {
            Clock clock = readClock(before);
            for (Variable variable : group) {
                variable.clock = clock;
            }
        }
    }

    private Clock readClock(Set<Variable> allowed) {
        take("when");
        boolean so = !at("not");
        if (!so) {
            now++;
        }
        Token name = take("name");
        Variable c = node.byName.get(name.text);
        if (c == null || !allowed.contains(c) || !c.bool) {
            throw new Fault(2, name.place);
        }
        if (c.deep() == 8) {
            throw new Fault(3, name.place);
        }
        return new Clock(c, so);
    }

    private void readEquation() {
        Equation equation = new Equation();
        equation.place = now().place;
        if (at("(")) {
            now++;
            readLeft(equation);
            while (at(",")) {
                now++;
                readLeft(equation);
            }
            take(")");
            take("=");
            if (!at("name")) {
                throw new Fault(1, now().place);
            }
            if (!nodes.containsKey(now().text)) {
                throw new Fault(2, now().place);
            }
            equation.right = readCall(0);
        } else {
            readLeft(equation);
            take("=");
            equation.right = expression(0);
        }
        take(";");
        node.equations.add(equation);
    }

    private void readLeft(Equation equation) {
        Token name = take("name");
        Variable variable = node.byName.get(name.text);
        if (variable == null || variable.role == 0) {
            throw new Fault(2, name.place);
        }
        variable.defined++;
        variable.equation = equation;
        equation.lefts.add(variable);
    }

    private void notTooDeep(int depth) {
        if (depth > 40) {
            throw new Fault(3, now().place);
        }
    }

    private Expression make(String kind, Expression... sides) {
        Expression made = new Expression();
        made.kind = kind;
        for (Expression side : sides) {
            made.sides.add(side);
            made.height = Math.max(made.height, side.height + 1);
        }
        if (made.height > 200) {
            throw new Fault(3, now().place);
        }
        return made;
    }

    private Expression expression(int depth) {
        notTooDeep(depth);
        if (at("if")) {
            now++;
            Expression condition = expression(depth + 1);
            take("then");
            Expression yes = expression(depth + 1);
            take("else");
            return make("if", condition, yes, expression(depth + 1));
        }
        Expression left = implied(depth);
        if (at("->", "fby")) {
            String kind = take("->", "fby").kind;
            return make(kind, left, expression(depth + 1));
        }
        return left;
    }

    private Expression implied(int depth) {
        notTooDeep(depth);
        Expression left = chain(depth, 0);
        if (at("=>")) {
            now++;
            return make("=>", left, implied(depth + 1));
        }
        return left;
    }

    private static final String[][] LEVELS = {{"or", "xor"}, {"and"}, {"=", "<>", "<", "<=", ">", ">="}, {"+", "-"},
        {"*", "div", "mod"}};

    private Expression chain(int depth, int level) {
        if (level == LEVELS.length) {
            return unary(depth);
        }
        Expression left = chain(depth, level + 1);
        boolean again = true;
        while (again && at(LEVELS[level])) {
            String kind = take(LEVELS[level]).kind;
            left = make(kind, left, chain(depth, level + 1));
            again = level != 2;
        }
        return left;
    }

    private Expression unary(int depth) {
        notTooDeep(depth);
        if (at("-", "not", "pre", "current")) {
            String kind = take("-", "not", "pre", "current").kind;
            return make(kind, unary(depth + 1));
        }
        Expression atom = atom(depth);
        while (at("when")) {
            Clock clock = readClock(new HashSet<>(node.variables));
            atom = make("when", atom);
            atom.clock = clock;
        }
        return atom;
    }

    private Expression atom(int depth) {
        if (at("number", "true", "false")) {
            Token token = take("number", "true", "false");
            Expression made = make(token.kind);
            boolean number = token.kind.equals("number");
            made.number = number ? Integer.parseInt(token.text) : token.kind.equals("true") ? 1 : 0;
            return made;
        }
        if (at("(")) {
            now++;
            Expression made = expression(depth + 1);
            take(")");
            return made;
        }
        if (!at("name")) {
            throw new Fault(1, now().place);
        }
        if (tokens.get(now + 1).kind.equals("(")) {
            return readCall(depth);
        }
        Variable variable = node.byName.get(now().text);
        if (variable == null) {
            throw new Fault(2, now().place);
        }
        now++;
        Expression made = make("variable");
        made.variable = variable;
        return made;
    }

    private Expression readCall(int depth) {
        Token name = take("name");
        Node called = nodes.get(name.text);
        if (called == null) {
            throw new Fault(2, name.place);
        }
        take("(");
        List<Expression> sides = new ArrayList<>();
        sides.add(expression(depth + 1));
        while (at(",")) {
            now++;
            sides.add(expression(depth + 1));
        }
        take(")");
        Expression made = make("call", sides.toArray(new Expression[0]));
        made.called = called;
        return made;
    }

    private void checkNode() {
        for (Variable variable : node.variables) {
            if (variable.role != 0 && variable.defined != 1) {
                throw new Fault(2, now().place);
            }
        }
        node.all = node.variables.size();
        for (Equation equation : node.equations) {
            checkEquation(equation);
            node.parts++;
            measure(equation.right);
        }
    }

    private void measure(Expression e) {
        node.parts++;
        node.cells += e.kind.equals("fby") ? 2 : List.of("pre", "->", "current").contains(e.kind) ? 1 : 0;
        if (e.called != null) {
            node.parts = Math.min(1L << 50, node.parts + e.called.parts);
            node.all = Math.min(1L << 50, node.all + e.called.all);
            node.cells = Math.min(1L << 50, node.cells + e.called.cells);
        }
        for (Expression side : e.sides) {
            measure(side);
        }
    }

    private void checkEquation(Equation equation) {
        boolean[] types = types(equation, equation.right, equation.lefts.size());
        for (int i = 0; i < types.length; i++) {
            need(types[i] == equation.lefts.get(i).bool, 4, equation);
        }
        clocks(equation, equation.right);
        Clock clock = equation.lefts.get(0).clock;
        for (Variable left : equation.lefts) {
            need(Clock.same(left.clock, clock), 6, equation);
        }
        need(equation.right.any || Clock.same(equation.right.on, clock), 6, equation);
        settle(equation.right, clock);
    }

    private static void need(boolean good, int fault, Equation equation) {
        if (!good) {
            throw new Fault(fault, equation.place);
        }
    }

    /** Whether bool, of each of its answers. */
    private boolean[] types(Equation equation, Expression e, int answers) {
        List<Boolean> of = new ArrayList<>();
        for (Expression side : e.sides) {
            of.add(types(equation, side, 1)[0]);
        }
        switch (e.kind) {
            case "call":
                need(e.called.ins == of.size() && e.called.outs == answers, 5, equation);
                for (int i = 0; i < of.size(); i++) {
                    need(e.called.variables.get(i).bool == of.get(i), 4, equation);
                }
                boolean[] made = new boolean[answers];
                for (int i = 0; i < answers; i++) {
                    made[i] = e.called.variables.get(e.called.ins + i).bool;
                }
                return made;
            case "number":
                return new boolean[] {false};
            case "true": case "false":
                return new boolean[] {true};
            case "variable":
                return new boolean[] {e.variable.bool};
            case "when": case "pre": case "current":
                return new boolean[] {of.get(0)};
            case "not": case "and": case "or": case "xor": case "=>":
                need(!of.contains(false), 4, equation);
                return new boolean[] {true};
            case "=": case "<>":
                need(of.get(0).equals(of.get(1)), 4, equation);
                return new boolean[] {true};
            case "<": case "<=": case ">": case ">=":
                need(!of.contains(true), 4, equation);
                return new boolean[] {true};
            case "->": case "fby":
                need(of.get(0).equals(of.get(1)), 4, equation);
                return new boolean[] {of.get(0)};
            case "if":
                need(of.get(0) && of.get(1).equals(of.get(2)), 4, equation);
                return new boolean[] {of.get(1)};
            default:
                need(!of.contains(true), 4, equation);
                return new boolean[] {false};
        }
    }

    private void clocks(Equation equation, Expression e) {
        boolean any = true;
        Clock on = null;
        for (Expression side : e.sides) {
            clocks(equation, side);
            if (!side.any) {
                need(any || Clock.same(on, side.on), 6, equation);
                any = false;
                on = side.on;
            }
        }
        if (e.kind.equals("variable")) {
            any = false;
            on = e.variable.clock;
        }
        if (e.kind.equals("when")) {
            need(any || Clock.same(on, e.clock.c.clock), 6, equation);
            any = false;
            on = e.clock;
        }
        if (e.kind.equals("current")) {
            need(!any && on != null, 6, equation);
            on = on.c.clock;
        }
        e.any = any;
        e.on = on;
    }

    private void settle(Expression e, Clock around) {
        if (e.any) {
            e.any = false;
            e.on = around;
        }
        for (Expression side : e.sides) {
            settle(side, e.kind.equals("when") ? e.clock.c.clock : e.on);
        }
    }

    private Instance put(Node what, Instance around, Expression call, int callPlace) {
        Instance made = new Instance();
        made.node = what;
        made.around = around;
        made.call = call;
        made.callPlace = callPlace;
        made.base = putIn.size();
        for (Variable variable : what.variables) {
            putIn.add(variable);
            owner.add(made);
        }
        for (Equation equation : what.equations) {
            putCalls(made, equation, equation.right);
        }
        return made;
    }

    private void putCalls(Instance in, Equation equation, Expression e) {
        for (Expression side : e.sides) {
            putCalls(in, equation, side);
        }
        if (e.called != null) {
            in.calls.put(e, put(e.called, in, e, equation.place));
        }
    }

    /** The C of a clock as put in, as a number; -1: the base of all. */
    private int numberOfC(Instance in, Clock clock) {
        if (clock != null) {
            return in.base + clock.c.number;
        }
        return in.around == null ? -1 : numberOfC(in.around, in.call.on);
    }

    private void addCause(Set<Integer> to, int cause) {
        if (cause >= 0) {
            to.add(cause);
        }
    }

    private void findCauses(Instance in) {
        for (Variable variable : in.node.variables) {
            addCause(causes.get(in.base + variable.number), numberOfC(in, variable.clock));
        }
        for (Equation equation : in.node.equations) {
            if (equation.right.called != null) {
                Instance called = in.calls.get(equation.right);
                for (int i = 0; i < equation.lefts.size(); i++) {
                    causes.get(in.base + equation.lefts.get(i).number).add(called.base + called.node.ins + i);
                }
            } else {
                within(in, equation.right, causes.get(in.base + equation.lefts.get(0).number));
            }
        }
        for (Map.Entry<Expression, Instance> call : in.calls.entrySet()) {
            for (int i = 0; i < call.getValue().node.ins; i++) {
                within(in, call.getKey().sides.get(i), causes.get(call.getValue().base + i));
            }
            findCauses(call.getValue());
        }
    }

    private void within(Instance in, Expression e, Set<Integer> into) {
        if (e.kind.equals("pre")) {
            return;
        }
        if (e.kind.equals("variable")) {
            into.add(in.base + e.variable.number);
        } else if (e.called != null) {
            Instance called = in.calls.get(e);
            into.add(called.base + called.node.ins);
            return;
        } else if (e.kind.equals("when")) {
            addCause(into, numberOfC(in, e.clock));
        } else if (e.kind.equals("current")) {
            addCause(into, numberOfC(in, e.sides.get(0).on));
        }
        for (int i = 0; i < e.sides.size(); i++) {
            if (i == 0 || !e.kind.equals("fby")) {
                within(in, e.sides.get(i), into);
            }
        }
    }

    Set<Integer> reachedFrom(int from, boolean itself) {
        Set<Integer> reached = new HashSet<>();
        List<Integer> due = new ArrayList<>(causes.get(from));
        while (!due.isEmpty()) {
            int next = due.remove(due.size() - 1);
            if (reached.add(next)) {
                due.addAll(causes.get(next));
            }
        }
        if (itself) {
            reached.add(from);
        }
        return reached;
    }

    /** The values of the inputs at each instant, from 0. */
    void run(int[][] values) {
        inputs = values;
        for (Map<Integer, Integer> known : memory) {
            known.clear();
        }
    }

    long value(int k, int instant) {
        return on(top, main.variables.get(k).clock, instant) ? value(top, main.variables.get(k), instant) : ABSENT;
    }

    private boolean on(Instance in, Clock clock, int instant) {
        if (clock == null) {
            return in.around == null || on(in.around, in.call.on, instant);
        }
        return on(in, clock.c.clock, instant) && value(in, clock.c, instant) == (clock.so ? 1 : 0);
    }

    private int before(Instance in, Clock clock, int instant) {
        int found = instant - 1;
        while (found >= 0 && !on(in, clock, found)) {
            found--;
        }
        return found;
    }

    private int value(Instance in, Variable variable, int instant) {
        if (in.around == null && variable.role == 0) {
            return inputs[instant][variable.number];
        }
        Map<Integer, Integer> known = memory.get(in.base + variable.number);
        Integer value = known.get(instant);
        if (value == null) {
            value = define(in, variable, instant);
            known.put(instant, value);
        }
        return value;
    }

    private int define(Instance in, Variable variable, int instant) {
        if (variable.role == 0) {
            return value(in.around, in.call.sides.get(variable.number), instant);
        }
        Expression right = variable.equation.right;
        if (right.called != null) {
            int output = right.called.ins + variable.equation.lefts.indexOf(variable);
            return value(in.calls.get(right), right.called.variables.get(output), instant);
        }
        return value(in, right, instant);
    }

    private int value(Instance in, Expression e, int instant) {
        if (!on(in, e.on, instant)) {
            throw new IllegalStateException("asked for off its clock");
        }
        switch (e.kind) {
            case "number": case "true": case "false": return e.number;
            case "variable": return value(in, e.variable, instant);
            case "call": return value(in.calls.get(e), e.called.variables.get(e.called.ins), instant);
            case "when": return value(in, e.sides.get(0), instant);
            case "pre": {
                int last = before(in, e.on, instant);
                return last < 0 ? 0 : value(in, e.sides.get(0), last);
            }
            case "->": return value(in, e.sides.get(before(in, e.on, instant) < 0 ? 0 : 1), instant);
            case "fby": {
                int last = before(in, e.on, instant);
                return last < 0 ? value(in, e.sides.get(0), instant) : value(in, e.sides.get(1), last);
            }
            case "current": {
                Expression side = e.sides.get(0);
                int last = before(in, side.on, instant + 1);
                return last < 0 ? 0 : value(in, side, last);
            }
            case "if": return value(in, e.sides.get(value(in, e.sides.get(0), instant) == 1 ? 1 : 2), instant);
            default: return compute(in, e, instant);
        }
    }

    private int compute(Instance in, Expression e, int instant) {
        int x = value(in, e.sides.get(0), instant);
        if (e.sides.size() == 1) {
            return e.kind.equals("not") ? 1 - x : -x;
        }
        int y = value(in, e.sides.get(1), instant);
        switch (e.kind) {
            case "and": return x == 1 && y == 1 ? 1 : 0;
            case "or": return x == 1 || y == 1 ? 1 : 0;
            case "xor": return x != y ? 1 : 0;
            case "=>": return x == 0 || y == 1 ? 1 : 0;
            case "=": return x == y ? 1 : 0;
            case "<>": return x != y ? 1 : 0;
            case "<": return x < y ? 1 : 0;
            case "<=": return x <= y ? 1 : 0;
            case ">": return x > y ? 1 : 0;
            case ">=": return x >= y ? 1 : 0;
            case "+": return (int) ((long) x + y);
            case "-": return (int) ((long) x - y);
            case "*": return (int) ((long) x * y);
            case "div": return y == 0 ? 0 : (int) ((long) x / y);
            default: return y == 0 ? 0 : (int) ((long) x % y);
        }
    }
}
