import java.util.ArrayList;
import java.util.List;
import java.util.Locale;
import java.util.regex.Matcher;
import java.util.regex.Pattern;

/** The edges of TEXT: its bytes, WORDS, NUMBERS, signs and what parts them, and texts that end too early. */
public final class TextTest {
    /** With all words and signs in it. A variable is named like a node that is called, so that it may end behind it. */
    static final String ALL = "node f(a, e: int; g: bool) returns (r: int; s: bool); let r = a + e; s = g; tel"
        + " node h(a: int) returns (r: int); let r = - a; tel"
        + " node main(c: bool; h, x: int) returns (y, z: int; b, d: bool); var p: bool when c; q, u: int when not p;"
        + " w: int; let p = (true when c) or false xor not (c when c); q = (x when c) when not p -> 1;"
        + " u = q fby if q < 1 then q div 2 else q mod 3; w = h(x * 2) - pre x; d = x = 1 or x > 2 and x >= 3;"
        + " (y, b) = f(if c => c and x <> 1 then x else 0, current current q, x <= 7);"
        + " z = current (h when not c) + w; tel";
    static final Pattern PIECE =
        Pattern.compile("[A-Za-z][A-Za-z0-9_]*|[0-9]+|<>|<=|>=|->|=>|[():;,=<>+*-]");
    private static final String KEYWORDS = "node returns var let tel int bool when not and or xor if then else pre"
        + " current fby div mod true false";
    private static final String HEAD = "node m(x: int) returns (y: int); let y = ";
    private static final String LONGEST = "L23456789_123456789_123456789_1";
    private static final String TOO_LONG = LONGEST + "2";

    private TextTest() {
    }

    public static void main(String[] args) {
        emptyTexts();
        endsTooEarly();
        whatCannotStand();
        longestWords();
        tooLongWords();
        wordsThatDiffer();
        letters();
        keywords();
        numbers();
        tooLongNumbers();
        longestSigns();
        partedSigns();
        everyByteFirst();
        everyByteBehindName();
        everyByteBehindAll();
        blanks();
        comments();
        everyByteInComment();
        commentsAtTheEnd();
        oneOrMore();
        Check.finish(TextTest.class);
    }

    private static void emptyTexts() {
        Check.sentence("TEXT: one or more NODES (FAULT 1: the end, too)");
        for (String text : new String[] {"", " ", "\n", "\t\r\n  ", "--", "-- node", "--\n", " -- a\n -- b\n "}) {
            Check.faulty(text, 1, text.length());
        }
        StreamNodes nodes = Check.program(ALL);
        Check.same("read of an empty TAPE", nodes.read(), -1);
        Check.same("its fault", nodes.fault(0), 1);
        Check.same("its place", nodes.fault(1), 0);
        Check.same("no program", nodes.count(8), 0);
    }

    private static void endsTooEarly() {
        Check.sentence("1 a WORD, NUMBER or sign that can't stand there (the end, too)");
        Matcher pieces = PIECE.matcher(ALL);
        int nodeEnds = 0;
        while (pieces.find()) {
            for (String tail : new String[] {"", " \n\t", " -- tel"}) {
                String text = ALL.substring(0, pieces.end()) + tail;
                if (pieces.group().equals("tel")) {
                    Check.program(text);
                    nodeEnds++;
                } else {
                    Check.faulty(text, 1, text.length());
                }
            }
        }
        Check.same("ends of nodes", nodeEnds, 9);
    }

    private static void whatCannotStand() {
        Check.sentence("1 a WORD, NUMBER or sign that can't stand there (one too long; a byte that is none)");
        List<String> wrong = new ArrayList<>(List.of("#", "_", "_a", "\u00e9", "\u0000", ".", "1234567890", TOO_LONG));
        Matcher pieces = PIECE.matcher(ALL);
        while (pieces.find()) {
            for (String bad : wrong) {
                Check.faultyAt(ALL.substring(0, pieces.start()) + " @" + bad + " " + ALL.substring(pieces.end()), 1);
                Check.faultyAt(ALL.substring(0, pieces.end()) + " @" + bad + " " + ALL.substring(pieces.end()), 1);
            }
        }
        Check.faultyAt("@#" + ALL, 1);
    }

    private static void longestWords() {
        Check.sentence("WORDS (letters, digits, _, the first a letter; at most 31 signs)");
        Check.same("the longest has 31 signs", LONGEST.length(), 31);
        String a = "A" + LONGEST.substring(1);
        String b = "B" + LONGEST.substring(1);
        String c = "C" + LONGEST.substring(1);
        StreamNodes nodes = Check.program("node " + a + "(" + a + ": int) returns (" + b + ": int); let " + b + " = "
            + a + "; tel node " + b + "(" + a + ": bool) returns (" + b + ": int); var " + c + ": int when " + a
            + "; let " + c + " = " + a + "(7 when " + a + "); " + b + " = current " + c + "; tel");
        nodes.input(0, 1);
        Check.values(nodes, 1, 7);
    }

    private static void tooLongWords() {
        Check.sentence("1 one too long");
        Check.faultyAt("@" + TOO_LONG, 1);
        Check.faultyAt("node @" + TOO_LONG + "(x: int) returns (y: int); let y = x; tel", 1);
        Check.faultyAt("node m(@" + TOO_LONG + ": int) returns (y: int); let y = 1; tel", 1);
        Check.faultyAt("node m(x: int) returns (y, @" + TOO_LONG + ": int); let y = 1; tel", 1);
        Check.faultyAt("node m(x: bool) returns (y: int); var z: int when @" + TOO_LONG + "; let y = 1; tel", 1);
        Check.faultyAt(HEAD + "x; @" + TOO_LONG + " = 1; tel", 1);
        // No shorter word that is known stands for it.
        String known = "node m(" + LONGEST + ": int) returns (y: int); let y = ";
        Check.program(known + LONGEST + "; tel");
        Check.faultyAt(known + "@" + LONGEST + "1; tel", 1);
        Check.faultyAt(known + "@" + LONGEST + "_; tel", 1);
        Check.faultyAt(known + "@" + LONGEST + LONGEST + "; tel", 1);
        Check.faultyAt(known + "@" + LONGEST.substring(0, 30) + "; tel", 2);
        Check.program(HEAD + "x -- " + TOO_LONG + "\n; tel");
    }

    private static void wordsThatDiffer() {
        Check.sentence("by NAMES that differ");
        // Such as a sum of their signs would take for one another, and such as begin or end alike.
        String[] names = {"ab", "ba", "aB", "Ab", "AB", "a_b", "ab_", "abc", "a", "b", "a1", "a2", "a11", "a12", "Aa",
            "BB", "aab", "aba", "baa", "AaAa", "BBBB", "AaBB", "BBAa", "t3l", "te1", "tell", "xtel", "Tel"};
        StringBuilder ins = new StringBuilder(names[0]);
        for (int i = 1; i < names.length; i++) {
            ins.append(",").append(names[i]);
        }
        for (int i = 0; i < names.length; i++) {
            StreamNodes nodes = Check.program("node m(" + ins + ": int) returns (y: int); let y = " + names[i]
                + "; tel");
            for (int j = 0; j < names.length; j++) {
                nodes.input(j, 100 + j);
            }
            Check.values(nodes, names.length, 100 + i);
        }
    }

    private static void letters() {
        Check.sentence("letters, digits, _, the first a letter");
        String first = "abcdefghijklmnopqrstuvwxyzABCDEFGHIJKLMNOPQRSTUVWXYZ";
        String later = first + "0123456789_";
        for (char letter : first.toCharArray()) {
            Check.program("node " + letter + "(" + letter + ": int) returns (" + letter + "_: int); let " + letter
                + "_ = " + letter + "; tel");
        }
        for (char letter : later.toCharArray()) {
            Check.program("node m(q" + letter + ": int) returns (y: int); let y = q" + letter + "; tel");
        }
        for (char other : "0123456789_".toCharArray()) {
            Check.faultyAt("node m(@" + other + "x: int) returns (y: int); let y = 1; tel", 1);
        }
        // The bytes next to the letters and digits.
        for (char other : "@[`{/\u00aa\u00b5\u00c0\u00e9\u00ff".toCharArray()) {
            String text = "node m(x" + other + ": int) returns (y: int); let y = 1; tel";
            Check.faulty(text, 1, text.indexOf(other));
        }
    }

    private static void keywords() {
        Check.sentence("NAMES: WORDS that are none of node returns var let tel int bool when not ...");
        for (String word : KEYWORDS.split(" ")) {
            Check.faultyAt("node @" + word + "(x: int) returns (y: int); let y = 1; tel", 1);
            Check.faultyAt("node m(@" + word + ": int) returns (y: int); let y = 1; tel", 1);
            Check.faultyAt("node m(x, @" + word + ": int) returns (y: int); let y = 1; tel", 1);
            Check.faultyAt("node m(x: int) returns (@" + word + ": int); let y = 1; tel", 1);
            Check.faultyAt("node m(x: int) returns (y: int); var @" + word + ": int; let y = 1; tel", 1);
            Check.faultyAt("node m(x: int) returns (y: int); var z, @" + word + ": int; let y = 1; tel", 1);
            String when = "node m(x: bool) returns (y: int); var z: int when ";
            Check.faultyAt(when + (word.equals("not") ? "not @; let" : "@" + word + "; let"), 1);
            Check.faultyAt(when + "not @" + word + "; let", 1);
            Check.faultyAt("node m(x: int) returns (y: int); let (@" + word + ") = m(1); tel", 1);
            for (String name : new String[] {word + "1", word + "_", "q" + word, word.toUpperCase(Locale.ROOT),
                word + word}) {
                Check.program("node " + name + "(" + name + ": int) returns (y: int); let y = " + name + "; tel");
            }
        }
    }

    private static long valueOf(String expression) {
        StreamNodes nodes = Check.program(HEAD + expression + "; tel");
        nodes.tick(1);
        return nodes.value(1);
    }

    private static void numbers() {
        Check.sentence("NUMBERS (digits, at most 9)");
        for (String number : new String[] {"0", "9", "10", "00", "007", "123456789", "999999999", "000000000",
            "000000001", "100000000", "876543210"}) {
            Check.same(number, valueOf(number), Integer.parseInt(number));
        }
        Check.same("two of them", valueOf("999999999+999999999"), 1999999998);
        Check.same("three of them", valueOf("999999999+999999999+999999999"), 2999999997L - (1L << 32));
    }

    private static void tooLongNumbers() {
        Check.sentence("1 one too long");
        for (String number : new String[] {"1000000000", "0000000000", "0000000001", "1234567890", "2147483647",
            "4294967296", "18446744073709551616", "0".repeat(300)}) {
            Check.faultyAt(HEAD + "@" + number + "; tel", 1);
            Check.faultyAt(HEAD + "x + @" + number + "; tel", 1);
            Check.faultyAt(HEAD + "x @" + number + "; tel", 1);
        }
        Check.faultyAt(HEAD + "123456789@x; tel", 1);
        Check.faultyAt(HEAD + "123456789 @1; tel", 1);
        Check.faultyAt(HEAD + "1@_; tel", 1);
        Check.same("a word behind a number", valueOf("if 1=1then 2else 3"), 2);
        Check.program(HEAD + "x -- 1234567890\n; tel");
    }

    private static void longestSigns() {
        Check.sentence("the longest that stands there");
        for (String wrong : new String[] {"1 <=@> 2", "1 <>@= 2", "1 <>@> 2", "1 >=@= 2", "1 >=@> 2", "1 =>@= 2",
            "1 =>@> 2", "1 ->@> 2", "1 ->@= 2", "1 =@= 2", "1 =@-> 2", "1 <@-> 2", "1 >@-> 2", "1 >@< 2", "1 =@< 2",
            "1 <@< 2", "1 >@> 2", "1 *@* 2", "1 @:= 2"}) {
            Check.faultyAt(HEAD + wrong + "; tel", 1);
        }
        String bool = "node m(x: int) returns (y: bool); let y = ";
        for (String right : new String[] {"x<-1", "x<=-1", "x>=-1", "x<>-1", "x=-1", "true=>-1=x", "x>-1", "x=(1)"}) {
            Check.program(bool + right + "; tel");
        }
        Check.same("x->-1 at its first instant", valueOf("x->-1"), 0);
        Check.same("5*-1", valueOf("5*-1"), -5);
        Check.same("5+-1", valueOf("5+-1"), 4);
        Check.same("5- -1", valueOf("5- -1"), 6);
        Check.same("5-(-1)", valueOf("5-(-1)"), 6);
        Check.same("-(-1)", valueOf("-(-1)"), 1);
    }

    private static void partedSigns() {
        Check.sentence("blanks only part them");
        for (String parted : new String[] {"x < @> 1", "x < @= 1", "x > @= 1", "x - @> 1", "x = @> 1",
            "x <\n@= 1", "x < --\n@= 1", "x - -- >\n@> 1"}) {
            Check.faultyAt(HEAD + parted + "; tel", 1);
        }
        Check.faultyAt("@no de m(x: int) returns (y: int); let y = x; tel", 1);
        Check.faultyAt("@no--\nde m(x: int) returns (y: int); let y = x; tel", 1);
        Check.faultyAt(HEAD + "1 @1; tel", 1);
        Check.faultyAt(HEAD + "x @x; tel", 1);
        Check.same("- -x is no comment", valueOf("- -5"), 5);
    }

    private static void everyByteFirst() {
        Check.sentence("1 a byte that is none");
        for (int i = 0; i < 256; i++) {
            char sign = (char) i;
            boolean blank = isBlank(i);
            Check.faulty(sign + "", 1, blank ? 1 : 0);
            Check.faulty("  " + sign + " ", 1, blank ? 4 : 2);
        }
    }

    private static boolean isBlank(int sign) {
        return sign == 32 || sign == 9 || sign == 10 || sign == 13;
    }

    private static void everyByteBehindName() {
        Check.sentence("WORDS (letters, digits, _), blanks (bytes 32, 9, 10, 13); 1 a byte that is none");
        int at = HEAD.length() + 1;
        for (int i = 0; i < 256; i++) {
            char sign = (char) i;
            String text = HEAD + "x" + sign + "; tel";
            if (isBlank(i)) {
                Check.program(text);
            } else if (i < 128 && (Character.isLetterOrDigit(sign) || sign == '_' || sign == '(')) {
                // Another name, or that of a node.
                Check.faulty(text, 2, at - 1);
            } else {
                // A sign that may stand there lacks what is behind it.
                Check.faulty(text, 1, "=<>+-*;".indexOf(sign) >= 0 ? at + 1 : at);
            }
        }
    }

    private static void everyByteBehindAll() {
        Check.sentence("blanks (bytes 32, 9, 10, 13) only part them");
        for (int i = 0; i < 256; i++) {
            String text = HEAD + "x; tel " + (char) i;
            if (isBlank(i)) {
                Check.program(text);
            } else {
                Check.faulty(text, 1, text.length() - 1);
            }
        }
    }

    private static void blanks() {
        Check.sentence("blanks (bytes 32, 9, 10, 13) only part them");
        for (String blank : new String[] {" ", "\t", "\n", "\r", "\r\n", "  \t", " --\n", " -- # 1234567890\n",
            "\n--\n\n"}) {
            Matcher pieces = PIECE.matcher(ALL);
            StringBuilder text = new StringBuilder(blank);
            while (pieces.find()) {
                text.append(pieces.group()).append(blank);
            }
            Check.same("parts", Check.program(text.toString()).count(4), Check.program(ALL).count(4));
        }
        Check.program("node m(x:int)returns(y:int);let y=x;tel");
    }

    private static void comments() {
        Check.sentence("what stands from -- to before the next byte 10 (or the end) only parts them");
        Check.same("a sign behind it", valueOf("5 -- 1\n"), 5);
        Check.same("more behind its end", valueOf("5 -- 1\n - 2"), 3);
        Check.same("without blanks", valueOf("5--1\n-2--3\n"), 3);
        Check.same("three -", valueOf("5---1\n"), 5);
        Check.same("four -", valueOf("5----\n+1"), 6);
        Check.same("-->", valueOf("5--> 1\n"), 5);
        Check.same("<--", valueOf("5 -- <\n"), 5);
        Check.same("another in it", valueOf("5 -- 1 -- 2\n"), 5);
        Check.same("an empty one", valueOf("5--\n"), 5);
        Check.same("byte 13 does not end it", valueOf("5 -- 1\r + 1\n"), 5);
        Check.same("several lines", valueOf("5 -- a\n-- b\n\n -- c\n + 2"), 7);
        Check.faultyAt(HEAD + "x --\n@#; tel", 1);
        Check.faultyAt(HEAD + "x -- ; tel@", 1);
        Check.faultyAt(HEAD + "x -- ; tel\r@", 1);
        Check.faultyAt(HEAD + "x ; -- ; tel\n@", 1);
    }

    private static void everyByteInComment() {
        Check.sentence("from -- to before the next byte 10");
        for (int i = 0; i < 256; i++) {
            String text = HEAD + "x --" + (char) i + "#\n; tel";
            if (i == 10) {
                Check.faulty(text, 1, text.indexOf('#'));
            } else {
                Check.program(text);
            }
        }
    }

    private static void commentsAtTheEnd() {
        Check.sentence("before the next byte 10 (or the end)");
        for (String tail : new String[] {"--", " --", " -- node", "--\n", " -- node\n--", "--\n\n \t", "--#", "---"}) {
            Check.program(HEAD + "x; tel" + tail);
        }
        Check.faultyAt(HEAD + "x; tel @-", 1);
        Check.faultyAt(HEAD + "x; tel -- \n@-", 1);
        Check.program("--\n" + HEAD + "x; tel");
        Check.faultyAt("@-" + HEAD + "x; tel", 1);
    }

    /** What the grammar asks for at least one of has one, two and many, and never none. */
    private static void oneOrMore() {
        Check.sentence("GROUPS: one or more GROUP; NAMES; EQUATIONS; EXPRESSIONS with , between, one or more");
        Check.faultyAt("node m(@) returns (y: int); let y = 1; tel", 1);
        Check.faultyAt("node m(@: int) returns (y: int); let y = 1; tel", 1);
        Check.faultyAt("node m(x: int;@) returns (y: int); let y = 1; tel", 1);
        Check.faultyAt("node m(@; x: int) returns (y: int); let y = 1; tel", 1);
        Check.faultyAt("node m(x,@: int) returns (y: int); let y = 1; tel", 1);
        Check.faultyAt("node m(x: int@, y: int) returns (z: int); let z = 1; tel", 1);
        Check.faultyAt("node m(x: int) returns (@); let y = 1; tel", 1);
        Check.faultyAt("node m(x: int) returns (y: int); var @; let y = 1; tel", 1);
        Check.faultyAt("node m(x: int) returns (y: int); var @let y = 1; tel", 1);
        Check.faultyAt("node m(x: int) returns (y: int); var z: int;@; let y = 1; tel", 1);
        Check.faultyAt("node m(x: int) returns (y: int); var z: int; @var w: int; let y = 1; tel", 1);
        Check.faultyAt("node m(x: int) returns (y: int); let @tel", 1);
        Check.faultyAt("node m(x: int) returns (y: int); let @; tel", 1);
        Check.faultyAt("node m(x: int) returns (y: int); let (@) = m(1); tel", 1);
        Check.faultyAt("node m(x: int) returns (y: int); let (y,@) = m(1); tel", 1);
        Check.faultyAt(HEAD + "@; tel", 1);
        Check.faultyAt("node f(x: int) returns (y: int); let y = x; tel " + HEAD + "f(@); tel", 1);
        Check.faultyAt("node f(x: int) returns (y: int); let y = x; tel " + HEAD + "f(x,@); tel", 1);
        Check.faultyAt(HEAD + "x; tel@;", 1);
        Check.faultyAt(HEAD + "x; tel @tel", 1);
        Check.program("node m(x, u, v: int; w: bool; s, t: bool) returns (y: int; z: bool; a, b: int); var c: int; d,"
            + " e: bool; let y = 1; z = w; a = 1; b = 2; c = 3; d = s; e = t; tel");
    }
}
