import java.util.Arrays;
import java.util.NoSuchElementException;

/** Synchronous programs: nodes with equations over streams, read from a tape, checked, and run instant by instant. */
public final class StreamNodes {
    private static final int TAPE_MOST = 65536;
    private static final int FEED_BYTES = 20;
    private static final int TICKS_MOST = 1000;
    private static final long ABSENT = 1L << 40;

    private static final int NODES_MOST = 59;
    private static final int VARIABLES_MOST = 99;
    private static final int WORD_MOST = 31;
    private static final int NUMBER_MOST = 9;
    private static final int DEEPEST = 40;
    private static final int HIGHEST = 200;
    private static final int CLOCK_DEEPEST = 8;
    private static final int PARTS_MOST = 3000;
    private static final int PUT_IN_MOST = 6000;
    private static final int ALL_PARTS_MOST = 30000;
    // Sizes as PUT IN can double with each node; beyond this they are all the same: too large.
    private static final int SIZE_CAP = 1000000;

    // How long the rows are: they are made with the object and never again, so each has room for what the limits allow.
    private static final int TOKENS_ROOM = TAPE_MOST + 1;
    // What is known in a text are its nodes and their variables, and the first name that is not known ends the reading.
    private static final int NAMES_ROOM = NODES_MOST * (VARIABLES_MOST + 1) + 1;
    // No two operands stand next to each other in a text, and no two names.
    private static final int OPERANDS_ROOM = TAPE_MOST / 2 + 1;
    // An equation has at least a name, =, an operand and ; in it.
    private static final int EQUATIONS_ROOM = TAPE_MOST / 4 + 1;
    // One for each variable, each part, and the number 1 that each -> remembers.
    private static final int SLOTS_ROOM = PUT_IN_MOST + PARTS_MOST + 1;
    // A fby has two.
    private static final int CELLS_ROOM = 2 * PARTS_MOST;
    // The base, and each variable as C and as not C.
    private static final int CLOCKS_ROOM = 2 * PUT_IN_MOST + 1;

    private static final int FAULT_SIGN = 1;
    private static final int FAULT_NAME = 2;
    private static final int FAULT_SIZE = 3;
    private static final int FAULT_TYPE = 4;
    private static final int FAULT_CALL = 5;
    private static final int FAULT_CLOCK = 6;
    private static final int FAULT_CAUSE = 7;

    private static final int INT = 0;
    private static final int BOOL = 1;
    private static final int EITHER = 2;

    // A clock within a node: 2 * C + 1 for C, 2 * C for not C, or one of these.
    private static final int BASE = -1;
    private static final int ANY = -2;
    private static final int AT_ODDS = -3;

    // Kinds of what stands in a text. A part of an expression bears the kind of the word or sign that makes it.
    private static final int END = 0;
    private static final int BAD = 1;
    private static final int NAME = 2;
    private static final int NUMBER = 3;
    private static final int OPEN = 4;
    private static final int CLOSE = 5;
    private static final int COLON = 6;
    private static final int SEMICOLON = 7;
    private static final int COMMA = 8;
    private static final int EQUAL = 9;
    private static final int UNEQUAL = 10;
    private static final int LESS = 11;
    private static final int AT_MOST = 12;
    private static final int MORE = 13;
    private static final int AT_LEAST = 14;
    private static final int PLUS = 15;
    private static final int MINUS = 16;
    private static final int TIMES = 17;
    private static final int ARROW = 18;
    private static final int IMPLIES = 19;
    // The keywords, in the order of KEYWORDS.
    private static final int NODE = 20;
    private static final int RETURNS = 21;
    private static final int VAR = 22;
    private static final int LET = 23;
    private static final int TEL = 24;
    private static final int TYPE_INT = 25;
    private static final int TYPE_BOOL = 26;
    private static final int WHEN = 27;
    private static final int NOT = 28;
    private static final int AND = 29;
    private static final int OR = 30;
    private static final int XOR = 31;
    private static final int IF = 32;
    private static final int THEN = 33;
    private static final int ELSE = 34;
    private static final int PRE = 35;
    private static final int CURRENT = 36;
    private static final int FBY = 37;
    private static final int DIV = 38;
    private static final int MOD = 39;
    private static final int TRUE = 40;
    private static final int FALSE = 41;
    // Two kinds of parts that share their sign with others.
    private static final int NEGATE = 42;
    private static final int CALL = 43;

    private static final int KEYWORD_COUNT = 22;
    private static final String KEYWORDS =
        "node returns var let tel int bool when not and or xor if then else pre current fby div mod true false ";

    // How tightly a part holds its sides: brackets hold all, what is UNARY only what is next to it.
    private static final int RANK_BRACKET = 0;
    private static final int RANK_ARROW = 1;
    private static final int RANK_IMPLIES = 2;
    private static final int RANK_EITHER = 3;
    private static final int RANK_BOTH = 4;
    private static final int RANK_COMPARED = 5;
    private static final int RANK_SUM = 6;
    private static final int RANK_PRODUCT = 7;
    private static final int RANK_UNARY = 8;

    private final Tokens tokens;
    private final Nodes nodes;
    private final Code code;
    private final NodeReader reader;
    private final Slots slots;
    private final Linker linker;
    private final Order order;
    private final Program program;
    private final int[] given = new int[VARIABLES_MOST];
    // The keywords stand behind the tape, so that all words are found in one row.
    private final byte[] tape = new byte[TAPE_MOST + KEYWORDS.length()];
    private int tapeLength;
    private int allParts;
    private int main = -1;
    private int instants;
    private int keptInstants;

    public StreamNodes() {
        for (int i = 0; i < KEYWORDS.length(); i++) {
            tape[TAPE_MOST + i] = (byte) KEYWORDS.charAt(i);
        }
        tokens = new Tokens(tape);
        nodes = new Nodes();
        code = new Code();
        reader = new NodeReader(tokens, nodes, code);
        slots = new Slots();
        linker = new Linker(nodes, code, slots);
        order = new Order(slots);
        program = new Program(slots, order);
    }

    public int feed(int a, int b, int c, int d, int e) throws IllegalStateException {
        if (tapeLength + FEED_BYTES > TAPE_MOST) {
            throw new IllegalStateException();
        }
        append(a);
        append(b);
        append(c);
        append(d);
        append(e);
        return tapeLength;
    }

    public int end(int n) throws IllegalArgumentException {
        if (n < 0 || n > tapeLength) {
            throw new IllegalArgumentException();
        }
        tapeLength = n;
        return n;
    }

    public int read() {
        main = -1;
        instants = 0;
        keptInstants = 0;
        tokens.scan(tapeLength);
        tapeLength = 0;
        nodes.begin();
        code.begin();
        boolean more = true;
        for (int i = 0; more && i <= NODES_MOST; i++) {
            more = reader.readHead() && reader.readBody() && tokens.kindNow() != END;
        }
        if (tokens.faultKind == 0 && sizesFit() && causesFit()) {
            main = nodes.size - 1;
            program.build(nodes.ins[main], nodes.vars[main]);
            Arrays.fill(given, 0);
        }
        return main < 0 ? -1 : slots.variables;
    }

    public int fault(int what) {
        switch (what) {
            case 0: return tokens.faultKind;
            case 1: return tokens.faultPlace;
            default: return -1;
        }
    }

    public int input(int i, int value) throws NoSuchElementException, IllegalArgumentException {
        if (main < 0 || i < 0 || i >= nodes.ins[main]) {
            throw new NoSuchElementException();
        }
        if (nodes.type[nodes.first[main] + i] == BOOL && value != 0 && value != 1) {
            throw new IllegalArgumentException();
        }
        int before = given[i];
        given[i] = value;
        return before;
    }

    public int tick(int n) throws IllegalArgumentException, IllegalStateException {
        if (n < 1 || n > TICKS_MOST) {
            throw new IllegalArgumentException();
        }
        if (main < 0) {
            throw new IllegalStateException();
        }
        program.run(given, n);
        instants += n;
        return instants;
    }

    public long value(int k) throws NoSuchElementException, IllegalStateException {
        if (!isVariable(k)) {
            throw new NoSuchElementException();
        }
        if (instants == 0) {
            throw new IllegalStateException();
        }
        return program.shown[k];
    }

    public int about(int k, int what) throws NoSuchElementException, IllegalArgumentException {
        if (!isVariable(k)) {
            throw new NoSuchElementException();
        }
        if (what < 0 || what > 3) {
            throw new IllegalArgumentException();
        }
        int clock = nodes.clock[nodes.first[main] + k];
        switch (what) {
            case 0: return nodes.role(main, k);
            case 1: return nodes.type[nodes.first[main] + k];
            case 2: return clock < 0 ? -1 : clock >> 1;
            default: return clock < 0 ? 0 : clock & 1;
        }
    }

    public boolean causes(int a, int b) throws NoSuchElementException {
        if (!isVariable(a) || !isVariable(b)) {
            throw new NoSuchElementException();
        }
        return order.reaches(a, b);
    }

    public int restart() throws IllegalStateException {
        if (main < 0) {
            throw new IllegalStateException();
        }
        int before = instants;
        program.clear();
        instants = 0;
        return before;
    }

    public void keep() throws IllegalStateException {
        if (main < 0 || instants == 0) {
            throw new IllegalStateException();
        }
        program.store();
        keptInstants = instants;
    }

    public int back() throws IllegalStateException {
        if (keptInstants == 0) {
            throw new IllegalStateException();
        }
        int before = instants;
        program.recall();
        instants = keptInstants;
        return before;
    }

    public int count(int what) {
        if (what == 7) {
            return tapeLength;
        }
        if (what < 0 || what > 8) {
            return -1;
        }
        return main < 0 ? 0 : countOfProgram(what);
    }

    private int countOfProgram(int what) {
        switch (what) {
            case 0: return nodes.vars[main];
            case 1: return nodes.ins[main];
            case 2: return nodes.outs[main];
            case 3: return slots.variables;
            case 4: return nodes.parts[main];
            case 5: return instants;
            case 6: return slots.cells;
            default: return nodes.size;
        }
    }

    private boolean isVariable(int k) {
        return main >= 0 && k >= 0 && k < nodes.vars[main];
    }

    private void append(int number) {
        tape[tapeLength] = (byte) (number >> 24);
        tape[tapeLength + 1] = (byte) (number >> 16);
        tape[tapeLength + 2] = (byte) (number >> 8);
        tape[tapeLength + 3] = (byte) number;
        tapeLength += 4;
    }

    private boolean sizesFit() {
        int last = nodes.size - 1;
        int parts = nodes.parts[last];
        if (parts > PARTS_MOST || nodes.allVariables[last] > PUT_IN_MOST || allParts + parts > ALL_PARTS_MOST) {
            return tokens.fail(FAULT_SIZE);
        }
        allParts += parts;
        return true;
    }

    private boolean causesFit() {
        linker.link(nodes.size - 1);
        order.sort();
        return order.ownCause < 0 || tokens.failAt(FAULT_CAUSE, slots.place[order.ownCause]);
    }

    private static int rank(int kind) {
        switch (kind) {
            case ARROW: case FBY: case ELSE: return RANK_ARROW;
            case IMPLIES: return RANK_IMPLIES;
            case OR: case XOR: return RANK_EITHER;
            case AND: return RANK_BOTH;
            case EQUAL: case UNEQUAL: case LESS: case AT_MOST: case MORE: case AT_LEAST: return RANK_COMPARED;
            case PLUS: case MINUS: return RANK_SUM;
            case TIMES: case DIV: case MOD: return RANK_PRODUCT;
            case NEGATE: case NOT: case PRE: case CURRENT: return RANK_UNARY;
            default: return RANK_BRACKET;
        }
    }

    /** Whether what is behind it is nested deeper: 1, or 0 for those that are read from left to right. */
    private static int nesting(int kind) {
        switch (kind) {
            case OR: case XOR: case AND: case EQUAL: case UNEQUAL: case LESS: case AT_MOST: case MORE: case AT_LEAST:
            case PLUS: case MINUS: case TIMES: case DIV: case MOD: return 0;
            default: return 1;
        }
    }

    /** The words of a text by numbers: the same word has the same number, the keywords have the lowest. */
    private static final class Words {
        private static final int HEADS = 512;
        private static final int WORDS_ROOM = KEYWORD_COUNT + NAMES_ROOM;
        final byte[] text;
        final int[] head = new int[HEADS];
        final int[] from = new int[WORDS_ROOM];
        final int[] length = new int[WORDS_ROOM];
        final int[] next = new int[WORDS_ROOM];
        // The variable of that name in the node that declared it last, and that node, from 1.
        final int[] variable = new int[WORDS_ROOM];
        final int[] owner = new int[WORDS_ROOM];
        // The node of that name, from 1; 0: none.
        final int[] node = new int[WORDS_ROOM];
        int size;

        Words(byte[] tape) {
            text = tape;
        }

        void begin() {
            Arrays.fill(head, -1);
            size = 0;
            int start = TAPE_MOST;
            for (int i = TAPE_MOST; i < text.length; i++) {
                if (text[i] == ' ') {
                    find(start, i - start);
                    start = i + 1;
                }
            }
        }

        /** The word's number; -1: it is new, and there is no room for one more. */
        int find(int at, int count) {
            int hash = 0;
            for (int i = 0; i < count; i++) {
                hash = hash * 31 + text[at + i];
            }
            int bucket = hash & (HEADS - 1);
            int word = head[bucket];
            for (int i = 0; i < size && word >= 0; i++) {
                if (length[word] == count && isAt(word, at)) {
                    return word;
                }
                word = next[word];
            }
            return size < WORDS_ROOM ? add(at, count, bucket) : -1;
        }

        private boolean isAt(int word, int at) {
            int start = from[word];
            for (int i = 0; i < length[word]; i++) {
                if (text[start + i] != text[at + i]) {
                    return false;
                }
            }
            return true;
        }

        private int add(int at, int count, int bucket) {
            int word = size++;
            from[word] = at;
            length[word] = count;
            next[word] = head[bucket];
            head[bucket] = word;
            variable[word] = -1;
            owner[word] = 0;
            node[word] = 0;
            return word;
        }
    }

    /** What stands in the text, from left to right, how far it has been read, and the first fault. */
    private static final class Tokens {
        final byte[] text;
        final Words words;
        final int[] kind = new int[TOKENS_ROOM];
        final int[] place = new int[TOKENS_ROOM];
        // A word's number or a number's value.
        final int[] item = new int[TOKENS_ROOM];
        int size;
        int now;
        int faultKind;
        int faultPlace;

        Tokens(byte[] tape) {
            text = tape;
            words = new Words(tape);
        }

        void scan(int length) {
            words.begin();
            size = 0;
            now = 0;
            faultKind = 0;
            faultPlace = 0;
            int at = 0;
            for (int i = 0; i < length && at < length; i++) {
                at = scanAt(at, length);
            }
            add(END, length, 0);
        }

        int kindNow() {
            return kind[now];
        }

        int kindNext() {
            return now + 1 < size ? kind[now + 1] : END;
        }

        int itemNow() {
            return item[now];
        }

        int placeNow() {
            return place[now];
        }

        void step() {
            if (now + 1 < size) {
                now++;
            }
        }

        boolean expect(int wanted) {
            if (kind[now] != wanted) {
                return fail(FAULT_SIGN);
            }
            step();
            return true;
        }

        /** A fault of what stands here. */
        boolean fail(int fault) {
            if (faultKind == 0) {
                faultKind = fault;
                faultPlace = place[now];
            }
            return false;
        }

        boolean failAt(int fault, int where) {
            if (faultKind == 0) {
                faultKind = fault;
                faultPlace = where;
            }
            return false;
        }

        private int scanAt(int at, int length) {
            int sign = text[at];
            int next = at + 1 < length ? text[at + 1] : 0;
            if (sign == ' ' || sign == '\t' || sign == '\n' || sign == '\r') {
                return at + 1;
            }
            if (isLetter(sign)) {
                return scanWord(at, length);
            }
            if (isDigit(sign)) {
                return scanNumber(at, length);
            }
            if (sign == '-' && next == '-') {
                return lineEnd(at, length);
            }
            return scanSign(sign, next, at, length);
        }

        private int scanWord(int at, int length) {
            int end = at;
            while (end < length && (isLetter(text[end]) || isDigit(text[end]) || text[end] == '_')) {
                end++;
            }
            int word = end - at > WORD_MOST ? -1 : words.find(at, end - at);
            if (word < 0) {
                return addBad(at, length);
            }
            add(word < KEYWORD_COUNT ? NODE + word : NAME, at, word);
            return end;
        }

        private int scanNumber(int at, int length) {
            int end = at;
            int number = 0;
            while (end < length && isDigit(text[end])) {
                number = number * 10 + text[end] - '0';
                end++;
            }
            if (end - at > NUMBER_MOST) {
                return addBad(at, length);
            }
            add(NUMBER, at, number);
            return end;
        }

        private int scanSign(int sign, int next, int at, int length) {
            int two = signOfTwo(sign, next);
            if (two != BAD) {
                add(two, at, 0);
                return at + 2;
            }
            int one = signOfOne(sign);
            if (one == BAD) {
                return addBad(at, length);
            }
            add(one, at, 0);
            return at + 1;
        }

        // Reading never gets beyond what is bad, so the rest of the text need not be looked at.
        private int addBad(int at, int length) {
            add(BAD, at, 0);
            return length;
        }

        private void add(int what, int at, int of) {
            kind[size] = what;
            place[size] = at;
            item[size] = of;
            size++;
        }

        private int lineEnd(int at, int length) {
            int end = at;
            while (end < length && text[end] != '\n') {
                end++;
            }
            return end;
        }

        private static boolean isLetter(int sign) {
            return sign >= 'a' && sign <= 'z' || sign >= 'A' && sign <= 'Z';
        }

        private static boolean isDigit(int sign) {
            return sign >= '0' && sign <= '9';
        }

        private static int signOfTwo(int sign, int next) {
            if (next == '>') {
                return sign == '<' ? UNEQUAL : sign == '-' ? ARROW : sign == '=' ? IMPLIES : BAD;
            }
            if (next == '=') {
                return sign == '<' ? AT_MOST : sign == '>' ? AT_LEAST : BAD;
            }
            return BAD;
        }

        private static int signOfOne(int sign) {
            switch (sign) {
                case '(': return OPEN;
                case ')': return CLOSE;
                case ':': return COLON;
                case ';': return SEMICOLON;
                case ',': return COMMA;
                case '=': return EQUAL;
                case '<': return LESS;
                case '>': return MORE;
                case '+': return PLUS;
                case '-': return MINUS;
                case '*': return TIMES;
                default: return BAD;
            }
        }
    }

    /** The nodes of the text and their variables. The node that is being read has the number size. */
    private static final class Nodes {
        final int[] word = new int[NODES_MOST];
        final int[] first = new int[NODES_MOST];
        final int[] ins = new int[NODES_MOST];
        final int[] outs = new int[NODES_MOST];
        final int[] vars = new int[NODES_MOST];
        final int[] firstEquation = new int[NODES_MOST];
        final int[] equations = new int[NODES_MOST];
        // What a call of it brings, with all that is put in for its own calls.
        final int[] parts = new int[NODES_MOST];
        final int[] allVariables = new int[NODES_MOST];
        int size;
        final int[] type = new int[NODES_MOST * VARIABLES_MOST];
        final int[] clock = new int[NODES_MOST * VARIABLES_MOST];
        final int[] deep = new int[NODES_MOST * VARIABLES_MOST];
        final int[] timesDefined = new int[NODES_MOST * VARIABLES_MOST];
        final int[] definedAt = new int[NODES_MOST * VARIABLES_MOST];
        int variables;

        void begin() {
            size = 0;
            variables = 0;
        }

        void open(int name, int equation) {
            word[size] = name;
            first[size] = variables;
            ins[size] = 0;
            outs[size] = 0;
            vars[size] = 0;
            firstEquation[size] = equation;
        }

        /** The new variable's number in its node. */
        int declare() {
            clock[variables] = BASE;
            deep[variables] = 0;
            timesDefined[variables] = 0;
            definedAt[variables] = 0;
            variables++;
            vars[size]++;
            return vars[size] - 1;
        }

        int role(int node, int variable) {
            return variable < ins[node] ? 0 : variable < ins[node] + outs[node] ? 1 : 2;
        }

        void close(Code code) {
            int own = size;
            equations[own] = code.equations - firstEquation[own];
            int from = code.from[firstEquation[own]];
            int allParts = code.parts - from + equations[own];
            int all = vars[own];
            for (int i = from; i < code.parts; i++) {
                if (code.kind[i] == CALL) {
                    int called = code.item[i];
                    allParts = Math.min(SIZE_CAP, allParts + parts[called]);
                    all = Math.min(SIZE_CAP, all + allVariables[called]);
                }
            }
            parts[own] = allParts;
            allVariables[own] = all;
            size++;
        }
    }

    /** The equations, their right sides with each part behind its sides. */
    private static final class Code {
        // Each part has a word, number or sign of its own in the text.
        final int[] kind = new int[TOKENS_ROOM];
        // A number's value, a variable's number in its node, the called node, or the clock behind when.
        final int[] item = new int[TOKENS_ROOM];
        final int[] sides = new int[TOKENS_ROOM];
        final int[] clock = new int[TOKENS_ROOM];
        int parts;
        final int[] begins = new int[EQUATIONS_ROOM];
        final int[] from = new int[EQUATIONS_ROOM];
        final int[] to = new int[EQUATIONS_ROOM];
        final int[] firstLeft = new int[EQUATIONS_ROOM];
        final int[] lefts = new int[EQUATIONS_ROOM];
        int equations;
        final int[] left = new int[OPERANDS_ROOM];
        int allLefts;

        void begin() {
            parts = 0;
            equations = 0;
            allLefts = 0;
        }

        void add(int what, int of, int sidesOf) {
            kind[parts] = what;
            item[parts] = of;
            sides[parts] = sidesOf;
            clock[parts] = ANY;
            parts++;
        }

        void openEquation(int place) {
            begins[equations] = place;
            from[equations] = parts;
            firstLeft[equations] = allLefts;
            lefts[equations] = 0;
        }

        void addLeft(int variable) {
            left[allLefts] = variable;
            allLefts++;
            lefts[equations]++;
        }

        void closeEquation() {
            to[equations] = parts;
            equations++;
        }
    }

    /** Reads nodes; what stands within equations behind = is left to the reader of expressions. */
    private static final class NodeReader {
        final Tokens tokens;
        final Nodes nodes;
        final Code code;
        final ExpressionReader expressions;
        final Checker checker;

        NodeReader(Tokens tokens, Nodes nodes, Code code) {
            this.tokens = tokens;
            this.nodes = nodes;
            this.code = code;
            expressions = new ExpressionReader(tokens, nodes, code);
            checker = new Checker(tokens, nodes, code);
        }

        boolean readHead() {
            if (tokens.kindNow() == NODE && nodes.size == NODES_MOST) {
                return tokens.fail(FAULT_SIZE);
            }
            return tokens.expect(NODE) && readNodeName() && readInputs() && tokens.expect(RETURNS) && readOutputs()
                && tokens.expect(SEMICOLON);
        }

        boolean readBody() {
            // One equation must stand there, so a tel right behind let is refused as what can't begin one.
            boolean good = readVars() && tokens.expect(LET) && readEquation();
            for (int i = 0; good && i < tokens.size && tokens.kindNow() != TEL; i++) {
                good = readEquation();
            }
            return good && checker.check() && closeNode();
        }

        private boolean closeNode() {
            nodes.close(code);
            // Only now, as a node can't call itself.
            tokens.words.node[nodes.word[nodes.size - 1]] = nodes.size;
            tokens.step();
            return true;
        }

        private boolean readNodeName() {
            if (tokens.kindNow() != NAME) {
                return tokens.fail(FAULT_SIGN);
            }
            int word = tokens.itemNow();
            if (tokens.words.node[word] != 0) {
                return tokens.fail(FAULT_NAME);
            }
            nodes.open(word, code.equations);
            tokens.step();
            return true;
        }

        private boolean readInputs() {
            boolean good = readGroups();
            nodes.ins[nodes.size] = nodes.vars[nodes.size];
            return good;
        }

        private boolean readOutputs() {
            boolean good = readGroups();
            nodes.outs[nodes.size] = nodes.vars[nodes.size] - nodes.ins[nodes.size];
            return good;
        }

        private boolean readGroups() {
            boolean good = tokens.expect(OPEN) && readGroup();
            for (int i = 0; good && i < tokens.size && tokens.kindNow() == SEMICOLON; i++) {
                tokens.step();
                good = readGroup();
            }
            return good && tokens.expect(CLOSE);
        }

        private boolean readVars() {
            if (tokens.kindNow() != VAR) {
                return true;
            }
            tokens.step();
            boolean good = readVarGroup();
            for (int i = 0; good && i < tokens.size && tokens.kindNow() == NAME; i++) {
                good = readVarGroup();
            }
            return good;
        }

        private boolean readVarGroup() {
            int before = nodes.vars[nodes.size];
            return readGroup() && readGroupClock(before) && tokens.expect(SEMICOLON);
        }

        private boolean readGroup() {
            int before = nodes.variables;
            boolean good = readNewName();
            for (int i = 0; good && i < tokens.size && tokens.kindNow() == COMMA; i++) {
                tokens.step();
                good = readNewName();
            }
            return good && tokens.expect(COLON) && readType(before);
        }

        private boolean readNewName() {
            if (tokens.kindNow() != NAME) {
                return tokens.fail(FAULT_SIGN);
            }
            int word = tokens.itemNow();
            if (tokens.words.owner[word] == nodes.size + 1) {
                return tokens.fail(FAULT_NAME);
            }
            if (nodes.vars[nodes.size] == VARIABLES_MOST) {
                return tokens.fail(FAULT_SIZE);
            }
            tokens.words.owner[word] = nodes.size + 1;
            tokens.words.variable[word] = nodes.declare();
            tokens.step();
            return true;
        }

        private boolean readType(int before) {
            int kind = tokens.kindNow();
            if (kind != TYPE_INT && kind != TYPE_BOOL) {
                return tokens.fail(FAULT_SIGN);
            }
            for (int i = before; i < nodes.variables; i++) {
                nodes.type[i] = kind == TYPE_BOOL ? BOOL : INT;
            }
            tokens.step();
            return true;
        }

        private boolean readGroupClock(int before) {
            if (tokens.kindNow() != WHEN) {
                return true;
            }
            int clock = expressions.readClock(before);
            if (clock < 0) {
                return false;
            }
            int first = nodes.first[nodes.size];
            for (int i = first + before; i < nodes.variables; i++) {
                nodes.clock[i] = clock;
                nodes.deep[i] = nodes.deep[first + (clock >> 1)] + 1;
            }
            return true;
        }

        private boolean readEquation() {
            code.openEquation(tokens.placeNow());
            boolean many = tokens.kindNow() == OPEN;
            boolean good = many ? readLefts() : readLeft();
            if (good && tokens.expect(EQUAL) && expressions.readRightSide(many)) {
                code.closeEquation();
                return true;
            }
            return false;
        }

        private boolean readLefts() {
            tokens.step();
            boolean good = readLeft();
            for (int i = 0; good && i < tokens.size && tokens.kindNow() == COMMA; i++) {
                tokens.step();
                good = readLeft();
            }
            return good && tokens.expect(CLOSE);
        }

        private boolean readLeft() {
            if (tokens.kindNow() != NAME) {
                return tokens.fail(FAULT_SIGN);
            }
            int variable = expressions.variableNow();
            if (variable < nodes.ins[nodes.size]) {
                return tokens.fail(FAULT_NAME);
            }
            int all = nodes.first[nodes.size] + variable;
            nodes.timesDefined[all]++;
            nodes.definedAt[all] = code.begins[code.equations];
            code.addLeft(variable);
            tokens.step();
            return true;
        }
    }

    /**
     * Reads the right sides of equations, with a stack of what still waits for its sides in place of methods that call
     * one another: forty levels of the grammar would hold too many calls open.
     */
    private static final class ExpressionReader {
        // At most 41 that nest, each with at most five of growing rank behind it.
        private static final int WAITING_MOST = 512;
        final Tokens tokens;
        final Nodes nodes;
        final Code code;
        final int[] waiting = new int[WAITING_MOST];
        // Of calls: the node, how many inputs are complete, and the highest of them.
        final int[] called = new int[WAITING_MOST];
        final int[] inputs = new int[WAITING_MOST];
        final int[] highest = new int[WAITING_MOST];
        final int[] height = new int[WAITING_MOST];
        int waits;
        int operands;
        int depth;
        boolean many;
        boolean operandDue;
        boolean ifMayStand;
        boolean complete;

        ExpressionReader(Tokens tokens, Nodes nodes, Code code) {
            this.tokens = tokens;
            this.nodes = nodes;
            this.code = code;
        }

        /** With the ; behind it; of an equation with many on its left only a call may stand there. */
        boolean readRightSide(boolean hasMany) {
            waits = 0;
            operands = 0;
            depth = 0;
            many = hasMany;
            operandDue = true;
            ifMayStand = true;
            complete = false;
            boolean good = !many || readCalled();
            for (int i = 0; good && !complete && i < tokens.size; i++) {
                good = operandDue ? readOperand() : readOperator();
            }
            return good;
        }

        /** The variable of this node that is named here; -1: none. */
        int variableNow() {
            int word = tokens.item[tokens.now];
            return tokens.words.owner[word] == nodes.size + 1 ? tokens.words.variable[word] : -1;
        }

        /** Reads when, perhaps not, and C, one of the variables before a number: the clock; -1: a fault. */
        int readClock(int before) {
            tokens.step();
            int so = tokens.kindNow() == NOT ? 0 : 1;
            if (so == 0) {
                tokens.step();
            }
            if (tokens.kindNow() != NAME) {
                tokens.fail(FAULT_SIGN);
                return -1;
            }
            int variable = variableNow();
            int all = nodes.first[nodes.size] + variable;
            if (variable < 0 || variable >= before || nodes.type[all] != BOOL) {
                tokens.fail(FAULT_NAME);
                return -1;
            }
            if (nodes.deep[all] == CLOCK_DEEPEST) {
                tokens.fail(FAULT_SIZE);
                return -1;
            }
            tokens.step();
            return 2 * variable + so;
        }

        private boolean readOperand() {
            if (depth > DEEPEST) {
                return tokens.fail(FAULT_SIZE);
            }
            int kind = tokens.kindNow();
            switch (kind) {
                case NUMBER: return takeAtom(NUMBER, tokens.itemNow());
                case TRUE: return takeAtom(TRUE, 1);
                case FALSE: return takeAtom(FALSE, 0);
                case NAME: return tokens.kindNext() == OPEN ? readCalled() : readVariable();
                case MINUS: return push(NEGATE, false);
                case NOT: case PRE: case CURRENT: return push(kind, false);
                case OPEN: return push(OPEN, true);
                case IF: return ifMayStand ? push(IF, true) : tokens.fail(FAULT_SIGN);
                default: return tokens.fail(FAULT_SIGN);
            }
        }

        private boolean readVariable() {
            int variable = variableNow();
            return variable < 0 ? tokens.fail(FAULT_NAME) : takeAtom(NAME, variable);
        }

        private boolean takeAtom(int kind, int item) {
            if (operands >= WAITING_MOST) {
                return tokens.fail(FAULT_SIZE);
            }
            code.add(kind, item, 0);
            height[operands] = 1;
            operands++;
            operandDue = false;
            tokens.step();
            return true;
        }

        private boolean readCalled() {
            if (tokens.kindNow() != NAME) {
                return tokens.fail(FAULT_SIGN);
            }
            int node = tokens.words.node[tokens.itemNow()] - 1;
            if (node < 0) {
                return tokens.fail(FAULT_NAME);
            }
            tokens.step();
            if (tokens.kindNow() != OPEN || !push(CALL, true)) {
                return tokens.fail(FAULT_SIGN);
            }
            called[waits - 1] = node;
            inputs[waits - 1] = 0;
            highest[waits - 1] = 0;
            return true;
        }

        /** What stands here waits for what is behind it. */
        private boolean push(int kind, boolean wholeExpression) {
            if (waits >= WAITING_MOST) {
                return tokens.fail(FAULT_SIZE);
            }
            waiting[waits] = kind;
            waits++;
            depth += nesting(kind);
            operandDue = true;
            ifMayStand = wholeExpression;
            tokens.step();
            return true;
        }

        private boolean readOperator() {
            int kind = tokens.kindNow();
            boolean closedCall = many && waits == 0;
            if (kind == WHEN && !closedCall) {
                return readWhen();
            }
            int rank = rank(kind);
            if (rank > RANK_BRACKET && rank < RANK_UNARY && kind != ELSE && !closedCall) {
                return readTwoSided(kind, rank);
            }
            return reduce(RANK_ARROW) && readCloser(kind);
        }

        private boolean readWhen() {
            int clock = readClock(nodes.vars[nodes.size]);
            if (clock < 0) {
                return false;
            }
            code.add(WHEN, clock, 1);
            height[operands - 1]++;
            return height[operands - 1] <= HIGHEST || tokens.fail(FAULT_SIZE);
        }

        private boolean readTwoSided(int kind, int rank) {
            boolean fromTheRight = rank <= RANK_IMPLIES;
            if (!reduce(fromTheRight || rank == RANK_COMPARED ? rank + 1 : rank)) {
                return false;
            }
            if (rank == RANK_COMPARED && waits > 0 && rank(waiting[waits - 1]) == RANK_COMPARED) {
                return reduce(RANK_ARROW) && tokens.fail(FAULT_SIGN);
            }
            return push(kind, rank == RANK_ARROW);
        }

        /** All that waits on top and holds its sides at least so tightly has them now. */
        private boolean reduce(int least) {
            boolean good = true;
            while (good && waits > 0 && rank(waiting[waits - 1]) >= least) {
                waits--;
                int kind = waiting[waits];
                int sides = kind == ELSE ? 3 : rank(kind) == RANK_UNARY ? 1 : 2;
                depth -= nesting(kind);
                operands -= sides - 1;
                int most = height[operands - 1];
                for (int i = 1; i < sides; i++) {
                    most = most >= height[operands - 1 + i] ? most : height[operands - 1 + i];
                }
                height[operands - 1] = most + 1;
                code.add(kind == ELSE ? IF : kind, 0, sides);
                good = most < HIGHEST || tokens.fail(FAULT_SIZE);
            }
            return good;
        }

        private boolean readCloser(int kind) {
            int bracket = waits > 0 ? waiting[waits - 1] : END;
            if (bracket == END && kind == SEMICOLON) {
                complete = true;
                tokens.step();
                return true;
            }
            if (bracket == IF && kind == THEN || bracket == THEN && kind == ELSE) {
                return goOnBehind(kind);
            }
            if (bracket == OPEN && kind == CLOSE) {
                waits--;
                depth--;
                tokens.step();
                return true;
            }
            if (bracket == CALL && (kind == COMMA || kind == CLOSE)) {
                takeInput();
                return kind == COMMA ? goOnBehind(CALL) : closeCall();
            }
            return tokens.fail(FAULT_SIGN);
        }

        private boolean goOnBehind(int kind) {
            waiting[waits - 1] = kind;
            operandDue = true;
            ifMayStand = true;
            tokens.step();
            return true;
        }

        // Only the highest is held on to: a call may have more inputs here than any stack has room for.
        private void takeInput() {
            operands--;
            int top = waits - 1;
            inputs[top]++;
            highest[top] = Math.max(highest[top], height[operands]);
        }

        private boolean closeCall() {
            waits--;
            depth--;
            code.add(CALL, called[waits], inputs[waits]);
            height[operands] = highest[waits] + 1;
            operands++;
            tokens.step();
            return highest[waits] < HIGHEST || tokens.fail(FAULT_SIZE);
        }
    }

    /** Looks at a node whose tel is reached: that each variable is defined once, then types and clocks. */
    private static final class Checker {
        final Tokens tokens;
        final Nodes nodes;
        final Code code;
        final int[] stack = new int[OPERANDS_ROOM];
        int top;
        int first;

        Checker(Tokens tokens, Nodes nodes, Code code) {
            this.tokens = tokens;
            this.nodes = nodes;
            this.code = code;
        }

        boolean check() {
            int node = nodes.size;
            first = nodes.first[node];
            for (int i = first + nodes.ins[node]; i < nodes.variables; i++) {
                if (nodes.timesDefined[i] != 1) {
                    return tokens.fail(FAULT_NAME);
                }
            }
            boolean good = true;
            for (int i = nodes.firstEquation[node]; good && i < code.equations; i++) {
                good = typesFit(i) && clocksFit(i);
            }
            return good;
        }

        private boolean typesFit(int equation) {
            top = 0;
            int fault = 0;
            int last = code.to[equation] - 1;
            for (int i = code.from[equation]; fault == 0 && i <= last; i++) {
                // Only the last part answers to the left side, all others to the part around them.
                fault = checkType(i, i == last ? code.lefts[equation] : 1);
            }
            for (int i = 0; fault == 0 && i < code.lefts[equation]; i++) {
                int left = first + code.left[code.firstLeft[equation] + i];
                fault = i < top && stack[i] == nodes.type[left] ? 0 : FAULT_TYPE;
            }
            return fault == 0 || tokens.failAt(fault, code.begins[equation]);
        }

        private int checkType(int part, int answers) {
            int kind = code.kind[part];
            int sides = code.sides[part];
            if (kind == CALL) {
                return checkCall(part, answers);
            }
            if (sides == 0) {
                stack[top] = typeOfAtom(part);
                top++;
                return 0;
            }
            int condition = stack[top - sides];
            int type = stack[top - 1];
            top -= sides - 1;
            stack[top - 1] = typeOfAnswer(kind, type);
            if (sides == 3) {
                return condition == BOOL && stack[top] == type ? 0 : FAULT_TYPE;
            }
            int wanted = typeOfSides(kind);
            return condition == type && (wanted == EITHER || wanted == type) ? 0 : FAULT_TYPE;
        }

        private int checkCall(int part, int answers) {
            int called = code.item[part];
            int inputs = code.sides[part];
            if (inputs != nodes.ins[called] || answers != nodes.outs[called]) {
                return FAULT_CALL;
            }
            top -= inputs;
            int from = nodes.first[called];
            for (int i = 0; i < inputs; i++) {
                if (stack[top + i] != nodes.type[from + i]) {
                    return FAULT_TYPE;
                }
            }
            for (int i = 0; i < answers; i++) {
                stack[top] = nodes.type[from + inputs + i];
                top++;
            }
            return 0;
        }

        private int typeOfAtom(int part) {
            switch (code.kind[part]) {
                case NUMBER: return INT;
                case NAME: return nodes.type[first + code.item[part]];
                default: return BOOL;
            }
        }

        private static int typeOfSides(int kind) {
            switch (kind) {
                case NOT: case AND: case OR: case XOR: case IMPLIES: return BOOL;
                case EQUAL: case UNEQUAL: case ARROW: case FBY: case PRE: case CURRENT: case WHEN: return EITHER;
                default: return INT;
            }
        }

        private static int typeOfAnswer(int kind, int ofSide) {
            return rank(kind) == RANK_COMPARED ? BOOL : ofSide;
        }

        private boolean clocksFit(int equation) {
            top = 0;
            boolean good = true;
            for (int i = code.from[equation]; good && i < code.to[equation]; i++) {
                good = checkClock(i);
            }
            int from = code.firstLeft[equation];
            int clock = nodes.clock[first + code.left[from]];
            for (int i = 1; i < code.lefts[equation]; i++) {
                good = good && nodes.clock[first + code.left[from + i]] == clock;
            }
            if (!good || stack[0] != ANY && stack[0] != clock) {
                return tokens.failAt(FAULT_CLOCK, code.begins[equation]);
            }
            settle(equation, clock);
            return true;
        }

        private boolean checkClock(int part) {
            int sides = code.sides[part];
            int kind = code.kind[part];
            top -= sides;
            int clock = kind == NAME ? nodes.clock[first + code.item[part]] : joined(sides);
            if (clock == AT_ODDS) {
                return false;
            }
            if (kind == WHEN) {
                if (clock != ANY && clock != clockOfC(code.item[part])) {
                    return false;
                }
                clock = code.item[part];
            }
            if (kind == CURRENT) {
                if (clock < 0) {
                    return false;
                }
                clock = clockOfC(clock);
            }
            code.clock[part] = clock;
            stack[top] = clock;
            top++;
            return true;
        }

        private int clockOfC(int clock) {
            return nodes.clock[first + (clock >> 1)];
        }

        private int joined(int sides) {
            int clock = ANY;
            for (int i = 0; i < sides; i++) {
                int side = stack[top + i];
                if (clock == ANY) {
                    clock = side;
                } else if (side != ANY && side != clock) {
                    clock = AT_ODDS;
                }
            }
            return clock;
        }

        /** From the outside in: what is on any clock gets that around it. A current gets that of its side. */
        private void settle(int equation, int clock) {
            top = 0;
            stack[top] = clock;
            top++;
            for (int i = code.to[equation] - 1; i >= code.from[equation]; i--) {
                top--;
                int around = stack[top];
                int within = around;
                if (code.kind[i] == WHEN) {
                    within = clockOfC(code.item[i]);
                } else if (code.kind[i] == CURRENT) {
                    within = code.clock[i - 1];
                    around = within;
                }
                code.clock[i] = around;
                for (int j = 0; j < code.sides[i]; j++) {
                    stack[top] = within;
                    top++;
                }
            }
        }
    }

    /**
     * What is put in: a slot for each variable, in their order, then one for each part that makes a value. A slot's
     * sides a, b and c are the slots that it needs at the same instant, so that its causes can be found along them.
     */
    private static final class Slots {
        final int[] kind = new int[SLOTS_ROOM];
        final int[] a = new int[SLOTS_ROOM];
        final int[] b = new int[SLOTS_ROOM];
        final int[] c = new int[SLOTS_ROOM];
        // A number's value, or the first cell of what remembers.
        final int[] item = new int[SLOTS_ROOM];
        int size;
        // A clock here: 0 for the base, else 1 + 2 * the slot of C, and 1 more for C than for not C.
        final int[] clock = new int[PUT_IN_MOST];
        final int[] place = new int[PUT_IN_MOST];
        int variables;
        final int[] cellFrom = new int[CELLS_ROOM];
        final int[] cellClock = new int[CELLS_ROOM];
        int cells;

        void begin(int variablesDue) {
            variables = variablesDue;
            size = variablesDue;
            cells = 0;
        }

        int add(int what, int of) {
            set(size, what, of);
            size++;
            return size - 1;
        }

        void set(int slot, int what, int of) {
            kind[slot] = what;
            item[slot] = of;
            a[slot] = -1;
            b[slot] = -1;
            c[slot] = -1;
        }

        void addCell(int from, int onClock) {
            cellFrom[cells] = from;
            cellClock[cells] = onClock;
            cells++;
        }

        int side(int slot, int which) {
            return which == 0 ? a[slot] : which == 1 ? b[slot] : c[slot];
        }

        /** The slot of a clock's C; -1: the base. */
        static int slotOfC(int clock) {
            return clock == 0 ? -1 : clock - 1 >> 1;
        }
    }

    /** Puts the called nodes in, each with slots of its own. */
    private static final class Linker {
        final Nodes nodes;
        final Code code;
        final Slots slots;
        // The nodes that stand open, each called by the one before: which, where its variables and clock are, and how
        // far it has come.
        final int[] node = new int[NODES_MOST];
        final int[] base = new int[NODES_MOST];
        final int[] clock = new int[NODES_MOST];
        final int[] equation = new int[NODES_MOST];
        final int[] part = new int[NODES_MOST];
        int open;
        // Each open node may hold all the outputs of the one it calls, beside one slot for a part.
        final int[] stack = new int[PARTS_MOST + PUT_IN_MOST];
        int top;
        int variables;
        int one;

        Linker(Nodes nodes, Code code, Slots slots) {
            this.nodes = nodes;
            this.code = code;
            this.slots = slots;
        }

        void link(int main) {
            int parts = nodes.parts[main];
            slots.begin(nodes.allVariables[main]);
            open = 0;
            top = 0;
            variables = 0;
            one = slots.add(NUMBER, 1);
            openNode(main, 0, 0);
            // Each step takes a part, ends an equation or closes a node, of which there are fewer than parts.
            for (int i = 0; open > 0 && i <= 3 * parts; i++) {
                goOn(open - 1);
            }
        }

        private void goOn(int frame) {
            int now = equation[frame];
            int called = node[frame];
            if (now == nodes.firstEquation[called] + nodes.equations[called]) {
                open--;
            } else if (part[frame] < code.to[now]) {
                part[frame]++;
                take(frame, part[frame] - 1);
            } else {
                define(frame, now);
                equation[frame]++;
            }
        }

        private void openNode(int called, int onClock, int callPlace) {
            int from = nodes.first[called];
            node[open] = called;
            base[open] = variables;
            clock[open] = onClock;
            equation[open] = nodes.firstEquation[called];
            part[open] = code.from[nodes.firstEquation[called]];
            for (int i = 0; i < nodes.vars[called]; i++) {
                int slot = variables + i;
                slots.set(slot, NAME, 0);
                slots.clock[slot] = putInClock(open, nodes.clock[from + i]);
                slots.b[slot] = Slots.slotOfC(slots.clock[slot]);
                slots.place[slot] = i < nodes.ins[called] ? callPlace : nodes.definedAt[from + i];
            }
            variables += nodes.vars[called];
            open++;
        }

        private int putInClock(int frame, int ofNode) {
            return ofNode == BASE ? clock[frame] : 1 + 2 * base[frame] + ofNode;
        }

        private void define(int frame, int now) {
            int lefts = code.lefts[now];
            top -= lefts;
            for (int i = 0; i < lefts; i++) {
                slots.a[base[frame] + code.left[code.firstLeft[now] + i]] = stack[top + i];
            }
        }

        private void take(int frame, int at) {
            int kind = code.kind[at];
            switch (kind) {
                case NAME:
                    push(base[frame] + code.item[at]);
                    break;
                case NUMBER: case TRUE: case FALSE:
                    push(slots.add(NUMBER, code.item[at]));
                    break;
                case WHEN:
                    // It is its side. Its C needs no edge: what is on that clock has it as cause, and so has current.
                    break;
                case CALL:
                    takeCall(frame, at);
                    break;
                default:
                    takeOperator(frame, at, kind);
            }
        }

        private void push(int slot) {
            stack[top] = slot;
            top++;
        }

        private void takeCall(int frame, int at) {
            int called = code.item[at];
            int inputs = nodes.ins[called];
            int from = variables;
            openNode(called, putInClock(frame, code.clock[at]), code.begins[equation[frame]]);
            top -= inputs;
            for (int i = 0; i < inputs; i++) {
                slots.a[from + i] = stack[top + i];
            }
            for (int i = 0; i < nodes.outs[called]; i++) {
                push(from + inputs + i);
            }
        }

        private void takeOperator(int frame, int at, int kind) {
            int sides = code.sides[at];
            int onClock = putInClock(frame, code.clock[at]);
            top -= sides;
            int slot = slots.add(kind, slots.cells);
            slots.a[slot] = stack[top];
            slots.b[slot] = sides > 1 ? stack[top + 1] : -1;
            slots.c[slot] = sides > 2 ? stack[top + 2] : -1;
            if (kind == PRE) {
                slots.addCell(slots.a[slot], onClock);
                slots.a[slot] = -1;
            } else if (kind == ARROW) {
                slots.addCell(one, onClock);
            } else if (kind == FBY) {
                slots.addCell(one, onClock);
                slots.addCell(slots.b[slot], onClock);
                slots.b[slot] = -1;
            } else if (kind == CURRENT) {
                slots.addCell(slots.a[slot], onClock);
                slots.b[slot] = Slots.slotOfC(onClock);
            }
            push(slot);
        }
    }

    /** Brings the slots into an order, each behind those it needs, and finds those that need themselves. */
    private static final class Order {
        private static final int SIDES = 3;
        final Slots slots;
        // The order in which slots were found, and the earliest that is still open and reached from them.
        final int[] number = new int[SLOTS_ROOM];
        final int[] low = new int[SLOTS_ROOM];
        final int[] side = new int[SLOTS_ROOM];
        final int[] trail = new int[SLOTS_ROOM];
        final int[] path = new int[SLOTS_ROOM];
        final int[] seen = new int[SLOTS_ROOM];
        final int[] sorted = new int[SLOTS_ROOM];
        int found;
        int trails;
        int paths;
        int sortedSize;
        int asked;
        int ownCause;

        Order(Slots slots) {
            this.slots = slots;
        }

        void sort() {
            int size = slots.size;
            Arrays.fill(number, 0, size, 0);
            Arrays.fill(seen, 0, size, 0);
            found = 0;
            trails = 0;
            paths = 0;
            sortedSize = 0;
            asked = 0;
            ownCause = -1;
            for (int root = 0; root < size; root++) {
                if (number[root] == 0) {
                    openSlot(root);
                }
                // Each slot is opened once, looked at along each of its sides, and closed.
                for (int i = 0; paths > 0 && i <= (SIDES + 2) * size; i++) {
                    advance(path[paths - 1]);
                }
            }
        }

        private void openSlot(int slot) {
            found++;
            number[slot] = found;
            low[slot] = found;
            side[slot] = 0;
            trail[trails] = slot;
            trails++;
            path[paths] = slot;
            paths++;
        }

        private void advance(int slot) {
            if (side[slot] == SIDES) {
                closeSlot(slot);
                return;
            }
            int cause = slots.side(slot, side[slot]);
            side[slot]++;
            if (cause < 0) {
                return;
            }
            if (cause == slot) {
                noteOwnCause(slot);
            }
            if (number[cause] == 0) {
                openSlot(cause);
            } else {
                low[slot] = Math.min(low[slot], number[cause]);
            }
        }

        private void closeSlot(int slot) {
            paths--;
            if (paths > 0) {
                int outer = path[paths - 1];
                low[outer] = Math.min(low[outer], low[slot]);
            }
            if (low[slot] == number[slot]) {
                takeCircle(slot);
            }
        }

        /** All on the trail from this slot on need one another; mostly it is alone. */
        private void takeCircle(int slot) {
            boolean alone = trail[trails - 1] == slot;
            boolean last = false;
            while (!last && trails > 0) {
                trails--;
                int member = trail[trails];
                if (!alone) {
                    noteOwnCause(member);
                }
                // Beyond all numbers, so that no later slot takes it for one that is still open.
                number[member] = slots.size + 1;
                sorted[sortedSize] = member;
                sortedSize++;
                last = member == slot;
            }
        }

        // Variables have the lowest slots, and no circle is without one.
        private void noteOwnCause(int slot) {
            if (ownCause < 0 || slot < ownCause) {
                ownCause = slot;
            }
        }

        boolean reaches(int from, int to) {
            asked++;
            path[0] = from;
            seen[from] = asked;
            int used = 1;
            // Each slot comes to the path once, so there are never more than slots.
            for (int i = 0; i < used && i < slots.size; i++) {
                for (int j = 0; j < SIDES; j++) {
                    int cause = slots.side(path[i], j);
                    if (cause >= 0 && seen[cause] != asked) {
                        seen[cause] = asked;
                        path[used] = cause;
                        used++;
                    }
                }
            }
            return seen[to] == asked;
        }
    }

    /** The program as it runs. What only hands a value on has no step: its readers look at where the value is made. */
    private static final class Program {
        // A step: its kind, its slot, where its sides a, b and c are made, and its first cell.
        private static final int STEP = 6;
        final Slots slots;
        final Order order;
        final long[] shown = new long[VARIABLES_MOST];
        final long[] keptShown = new long[VARIABLES_MOST];
        int ins;
        int vars;
        final int[] made = new int[SLOTS_ROOM];
        final int[] values = new int[SLOTS_ROOM];
        final int[] steps = new int[STEP * PARTS_MOST];
        int stepsUsed;
        final int[] cell = new int[CELLS_ROOM];
        final int[] keptCell = new int[CELLS_ROOM];
        // The clocks that are used, by numbers: 0 is the base, each other is behind the one that its C is on.
        final int[] clockNumber = new int[CLOCKS_ROOM];
        final int[] clockOuter = new int[CLOCKS_ROOM];
        final int[] clockC = new int[CLOCKS_ROOM];
        final int[] clockSo = new int[CLOCKS_ROOM];
        final int[] clockOn = new int[CLOCKS_ROOM];
        int clocks;

        Program(Slots slots, Order order) {
            this.slots = slots;
            this.order = order;
        }

        void build(int inputs, int variables) {
            ins = inputs;
            vars = variables;
            buildSteps();
            buildClocks();
            for (int i = 0; i < slots.cells; i++) {
                slots.cellFrom[i] = made[slots.cellFrom[i]];
                slots.cellClock[i] = clockNumber[slots.cellClock[i]];
            }
            clear();
        }

        private void buildSteps() {
            stepsUsed = 0;
            for (int i = 0; i < order.sortedSize; i++) {
                int slot = order.sorted[i];
                made[slot] = slot;
                values[slot] = 0;
                if (slots.kind[slot] == NAME) {
                    made[slot] = slots.a[slot] < 0 ? slot : made[slots.a[slot]];
                } else if (slots.kind[slot] == NUMBER) {
                    values[slot] = slots.item[slot];
                } else {
                    addStep(slot);
                }
            }
        }

        private void addStep(int slot) {
            steps[stepsUsed] = slots.kind[slot];
            steps[stepsUsed + 1] = slot;
            steps[stepsUsed + 2] = madeOf(slots.a[slot]);
            steps[stepsUsed + 3] = madeOf(slots.b[slot]);
            steps[stepsUsed + 4] = madeOf(slots.c[slot]);
            steps[stepsUsed + 5] = slots.item[slot];
            stepsUsed += STEP;
        }

        // A side that is not there is never looked at; slot 0 stands for it to keep the index good.
        private int madeOf(int side) {
            return side < 0 ? 0 : made[side];
        }

        private void buildClocks() {
            int codes = 2 * slots.variables + 1;
            Arrays.fill(clockNumber, 0, codes, 0);
            for (int i = 0; i < slots.variables; i++) {
                clockNumber[slots.clock[i]] = 1;
            }
            for (int i = 0; i < slots.cells; i++) {
                clockNumber[slots.cellClock[i]] = 1;
            }
            clocks = 1;
            for (int i = 1; i < codes; i++) {
                clocks += clockNumber[i];
            }
            numberClocks(codes);
        }

        // From the lowest: a C has a higher slot than that of its own clock, so the outer clock has its number.
        private void numberClocks(int codes) {
            clockNumber[0] = 0;
            clockOn[0] = 1;
            int last = 0;
            for (int i = 1; i < codes; i++) {
                if (clockNumber[i] == 1) {
                    last++;
                    clockNumber[i] = last;
                    int c = Slots.slotOfC(i);
                    clockOuter[last] = clockNumber[slots.clock[c]];
                    clockC[last] = made[c];
                    clockSo[last] = i - 1 & 1;
                }
            }
        }

        void run(int[] given, int instants) {
            for (int i = 0; i < ins; i++) {
                values[i] = given[i];
            }
            for (int i = 0; i < instants; i++) {
                for (int at = 0; at < stepsUsed; at += STEP) {
                    values[steps[at + 1]] = result(at);
                }
                turnClocks();
                fillCells();
            }
            for (int i = 0; i < vars; i++) {
                shown[i] = clockOn[clockNumber[slots.clock[i]]] == 1 ? values[made[i]] : ABSENT;
            }
        }

        private void turnClocks() {
            for (int i = 1; i < clocks; i++) {
                clockOn[i] = values[clockC[i]] == clockSo[i] ? clockOn[clockOuter[i]] : 0;
            }
        }

        private void fillCells() {
            for (int i = 0; i < slots.cells; i++) {
                if (clockOn[slots.cellClock[i]] == 1) {
                    cell[i] = values[slots.cellFrom[i]];
                }
            }
        }

        /** Also off its clock, where it is never looked at: only cells and what is shown heed clocks. */
        private int result(int at) {
            int x = values[steps[at + 2]];
            int y = values[steps[at + 3]];
            int first = steps[at + 5];
            switch (steps[at]) {
                case NEGATE: return -x;
                case NOT: return 1 - x;
                case PRE: return cell[first];
                case CURRENT: return y == clockSo[slots.cellClock[first]] ? x : cell[first];
                case TIMES: return x * y;
                case DIV: return y == 0 ? 0 : x / y;
                case MOD: return y == 0 ? 0 : x % y;
                case PLUS: return x + y;
                case MINUS: return x - y;
                case EQUAL: return x == y ? 1 : 0;
                case UNEQUAL: return x != y ? 1 : 0;
                case LESS: return x < y ? 1 : 0;
                case AT_MOST: return x <= y ? 1 : 0;
                case MORE: return x > y ? 1 : 0;
                case AT_LEAST: return x >= y ? 1 : 0;
                case AND: return x & y;
                case OR: return x | y;
                case XOR: return x ^ y;
                case IMPLIES: return 1 - x | y;
                case ARROW: return cell[first] == 0 ? x : y;
                case FBY: return cell[first] == 0 ? x : cell[first + 1];
                default: return x == 1 ? y : values[steps[at + 4]];
            }
        }

        void clear() {
            Arrays.fill(cell, 0, slots.cells, 0);
        }

        void store() {
            System.arraycopy(cell, 0, keptCell, 0, slots.cells);
            System.arraycopy(shown, 0, keptShown, 0, vars);
        }

        void recall() {
            System.arraycopy(keptCell, 0, cell, 0, slots.cells);
            System.arraycopy(keptShown, 0, shown, 0, vars);
        }
    }
}
