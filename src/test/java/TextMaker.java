import java.util.ArrayList;
import java.util.Collections;
import java.util.List;
import java.util.Random;

/** Makes texts that mostly have no fault: names, types and clocks are heeded, causes mostly. */
final class TextMaker {
    private static final class Var {
        String name;
        boolean bool;
        Var c;
        boolean so;
        int rank;
        int deep;
        boolean input;
    }

    private static final class Made {
        String name;
        List<Var> ins = new ArrayList<>();
        List<Var> outs = new ArrayList<>();
    }

    private final Random random;
    private final List<Made> made = new ArrayList<>();
    private final List<Var> vars = new ArrayList<>();
    private final StringBuilder text = new StringBuilder();
    private final double careless;
    private final double causeless;
    private int maxRank;
    private int outs = 3;

    TextMaker(Random random) {
        this.random = random;
        careless = random.nextInt(4) == 0 ? 0.01 : 0;
        causeless = random.nextInt(4) == 0 ? 0.05 : 0;
    }

    String make() {
        int nodes = 1 + random.nextInt(4);
        if (random.nextInt(8) == 0) {
            nodes = 10;
            outs = 6;
        }
        for (int i = 0; i < nodes; i++) {
            makeNode(i == nodes - 1 ? "main" : "f" + i);
        }
        return text.toString();
    }

    private String gap() {
        switch (random.nextInt(12)) {
            case 0: return "\n";
            case 1: return " -- what comes ; (\n";
            case 2: return "\t\r ";
            default: return " ";
        }
    }

    private void makeNode(String name) {
        vars.clear();
        Made node = new Made();
        node.name = name;
        text.append("node ").append(name).append(gap()).append("(");
        declare("i", 1 + random.nextInt(3), true);
        node.ins.addAll(vars);
        text.append(") returns (");
        declare("o", 1 + random.nextInt(outs), false);
        node.outs.addAll(vars.subList(node.ins.size(), vars.size()));
        text.append(");").append(gap());
        declareVars(random.nextInt(6));
        text.append("let").append(gap());
        rankVars(node.ins.size());
        List<Var> due = new ArrayList<>(vars.subList(node.ins.size(), vars.size()));
        Collections.shuffle(due, random);
        while (!due.isEmpty()) {
            define(due);
        }
        text.append("tel").append(gap());
        made.add(node);
    }

    private void declare(String letter, int count, boolean input) {
        for (int i = 0; i < count; i++) {
            Var var = new Var();
            var.name = letter + i;
            var.bool = random.nextBoolean();
            var.input = input;
            vars.add(var);
            text.append(i == 0 ? "" : "; ").append(var.name).append(": ").append(var.bool ? "bool" : "int");
        }
    }

    private void declareVars(int count) {
        for (int i = 0; i < count; i++) {
            Var var = new Var();
            var.name = "v" + i;
            var.bool = random.nextBoolean();
            List<Var> bools = new ArrayList<>();
            for (Var other : vars) {
                if (other.bool && other.deep < 8) {
                    bools.add(other);
                }
            }
            text.append(i == 0 ? "var " : "").append(var.name).append(": ").append(var.bool ? "bool" : "int");
            if (!bools.isEmpty() && random.nextInt(3) > 0) {
                var.c = bools.get(random.nextInt(bools.size()));
                var.so = random.nextBoolean();
                var.deep = var.c.deep + 1;
                text.append(" when ").append(var.so ? "" : "not ").append(var.c.name);
            }
            vars.add(var);
            text.append(";").append(gap());
        }
    }

    // A variable may use those of lower rank at the same instant; that of its clock has to be among them.
    private void rankVars(int ins) {
        for (int i = 0; i < vars.size(); i++) {
            Var var = vars.get(i);
            var.rank = i < ins ? 0 : 1 + random.nextInt(10) + (var.c == null ? 0 : var.c.rank);
        }
        maxRank = 1000;
    }

    private void define(List<Var> due) {
        Var left = due.remove(due.size() - 1);
        Made many = made.isEmpty() || random.nextInt(4) > 0 ? null : made.get(random.nextInt(made.size()));
        if (many != null && many.outs.size() <= due.size() + 1 && many.outs.get(0).bool == left.bool) {
            List<Var> lefts = new ArrayList<>(List.of(left));
            for (Var out : many.outs.subList(1, many.outs.size())) {
                for (Var other : due) {
                    if (other.bool == out.bool && other.c == left.c && other.so == left.so && !lefts.contains(other)) {
                        lefts.add(other);
                        break;
                    }
                }
            }
            if (lefts.size() == many.outs.size()) {
                due.removeAll(lefts);
                List<String> names = new ArrayList<>();
                int rank = 1000;
                for (Var var : lefts) {
                    names.add(var.name);
                    rank = Math.min(rank, var.rank);
                }
                text.append("(").append(String.join(", ", names)).append(") = ");
                text.append(call(many, left.c, left.so, rank, 3)).append(";").append(gap());
                return;
            }
        }
        text.append(left.name).append(" =").append(gap());
        text.append(expression(left.bool, left.c, left.so, left.rank, 1 + random.nextInt(5))).append(";").append(gap());
    }

    private String call(Made node, Var c, boolean so, int rank, int depth) {
        List<String> inputs = new ArrayList<>();
        for (Var in : node.ins) {
            inputs.add(expression(in.bool, c, so, random.nextDouble() < careless ? maxRank : rank, depth - 1));
        }
        if (careless > 0 && random.nextInt(6) == 0) {
            inputs.add(atom(false, c, so, rank));
        }
        return node.name + "(" + String.join("," + gap(), inputs) + ")";
    }

    private String nested(boolean bool, Var c, boolean so, int rank, int depth) {
        String inner = expression(bool, c, so, rank, depth);
        return random.nextInt(80) == 0 || inner.matches("\\w+") ? inner : "(" + inner + ")";
    }

    private String atom(boolean bool, Var c, boolean so, int rank) {
        List<Var> usable = new ArrayList<>();
        for (Var var : vars) {
            if (var.bool == bool && var.c == c && (c == null || var.so == so) && (var.input || var.rank < rank)
                || random.nextDouble() < careless) {
                usable.add(var);
            }
        }
        if (!usable.isEmpty() && random.nextInt(5) > 0) {
            return usable.get(random.nextInt(usable.size())).name;
        }
        if (c != null && random.nextInt(3) == 0) {
            return nested(bool, c.c, c.so, rank, 1) + " when " + (so ? "" : "not ") + c.name;
        }
        return bool ? random.nextBoolean() ? "true" : "false" : "" + random.nextInt(4);
    }

    private String expression(boolean bool, Var c, boolean so, int rank, int depth) {
        boolean type = random.nextDouble() < careless ? !bool : bool;
        if (depth <= 0) {
            return atom(type, c, so, rank);
        }
        int next = depth - 1;
        if (random.nextDouble() < causeless) {
            return expression(bool, c, so, maxRank, depth);
        }
        switch (random.nextInt(11)) {
            case 0:
                return "pre " + nested(type, c, so, maxRank, next);
            case 1:
                return nested(type, c, so, rank, next) + " -> " + nested(type, c, so, rank, next);
            case 2:
                return nested(type, c, so, rank, next) + gap() + "fby " + nested(type, c, so, maxRank, next);
            case 3:
                return "if " + nested(true, c, so, rank, next) + " then " + nested(type, c, so, rank, next) + " else "
                    + nested(type, c, so, rank, next);
            case 4:
                return current(type, c, so, rank, next);
            case 5:
                return c == null ? atom(type, null, so, rank)
                    : nested(type, c.c, c.so, rank, next) + " when " + (so ? "" : "not ") + c.name;
            case 6:
                return oneCall(type, c, so, rank, depth);
            case 7:
                return (type ? "not " : "- ") + nested(type, c, so, rank, next);
            default:
                return twoSided(type, c, so, rank, next);
        }
    }

    private String oneCall(boolean bool, Var c, boolean so, int rank, int depth) {
        for (Made node : made) {
            if (node.outs.size() == 1 && node.outs.get(0).bool == bool && random.nextBoolean()
                || random.nextDouble() < careless * 4) {
                return call(node, c, so, rank, depth);
            }
        }
        return atom(bool, c, so, rank);
    }

    private String current(boolean bool, Var c, boolean so, int rank, int depth) {
        List<Var> usable = new ArrayList<>();
        for (Var var : vars) {
            boolean here = var.c == c && (c == null || var.so == so);
            if (var.bool && here && var.deep < 8 && (var.input || var.rank < rank)) {
                usable.add(var);
            }
        }
        if (usable.isEmpty()) {
            return atom(bool, c, so, rank);
        }
        Var chosen = usable.get(random.nextInt(usable.size()));
        boolean is = random.nextBoolean();
        String seen = nested(bool, c, so, rank, depth) + " when " + (is ? "" : "not ") + chosen.name;
        switch (random.nextInt(12)) {
            case 0:
                return "current " + nested(bool, chosen, is, rank, depth);
            case 1:
                return "current " + seen;
            default:
                return "current (" + seen + " -> " + nested(bool, chosen, is, rank, depth) + ")";
        }
    }

    private String twoSided(boolean bool, Var c, boolean so, int rank, int depth) {
        String[] signs = bool ? new String[] {"and", "or", "xor", "=>", "=", "<>", "<", "<=", ">", ">="}
            : new String[] {"+", "-", "*", "div", "mod"};
        String sign = signs[random.nextInt(signs.length)];
        boolean sides = bool;
        if (sign.equals("=") || sign.equals("<>")) {
            sides = random.nextBoolean();
        } else if (sign.startsWith("<") || sign.startsWith(">")) {
            sides = false;
        }
        return nested(sides, c, so, rank, depth) + " " + sign + gap() + nested(sides, c, so, rank, depth);
    }
}
