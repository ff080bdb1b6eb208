/** The edges of what gathers a text: promises 1, 2, 3 and 5, and THE TAPE. Each method tests one sentence. */
public final class TapeTest {
    private static final Class<IllegalStateException> STATE = IllegalStateException.class;
    private static final Class<IllegalArgumentException> ARGUMENT = IllegalArgumentException.class;
    private static final int MOST = 65536;
    private static final int BLANKS = 0x20202020;
    private static final int LOW = Integer.MIN_VALUE;
    private static final int HIGH = Integer.MAX_VALUE;
    private static final String GOOD = "node m(x: int) returns (y: int); let y = x; tel";

    private TapeTest() {
    }

    public static void main(String[] args) {
        newObject();
        bytesInTheirOrder();
        bytesAbove127();
        length();
        noRoom();
        refusedFeed();
        onlyTheFirst();
        cutAcrossSigns();
        feedBehindTheCut();
        wrongEnds();
        endOfNone();
        lastRead();
        otherFaults();
        Check.finish(TapeTest.class);
    }

    private static StreamNodes blanks(int length) {
        StreamNodes nodes = new StreamNodes();
        for (int i = 0; i * 20 < length; i++) {
            nodes.feed(BLANKS, BLANKS, BLANKS, BLANKS, BLANKS);
        }
        nodes.end(length);
        return nodes;
    }

    private static void isFault(StreamNodes nodes, int fault, int place) {
        Check.same("read", nodes.read(), fault == 0 ? 2 : -1);
        Check.same("fault(0)", nodes.fault(0), fault);
        Check.same("fault(1)", nodes.fault(1), place);
    }

    private static void newObject() {
        Check.sentence("An empty TAPE, no program");
        StreamNodes nodes = new StreamNodes();
        Check.same("count(7)", nodes.count(7), 0);
        Check.same("end(0)", nodes.end(0), 0);
        isFault(nodes, 1, 0);
        Check.raises("tick(1) of a new object", STATE, () -> new StreamNodes().tick(1));
    }

    private static void bytesInTheirOrder() {
        Check.sentence("The four bytes of each number, the highest first, come to the TAPE");
        for (int i = 0; i < 20; i++) {
            int[] numbers = {BLANKS, BLANKS, BLANKS, BLANKS, BLANKS};
            numbers[i / 4] += ('#' - ' ') << 24 - 8 * (i % 4);
            StreamNodes nodes = new StreamNodes();
            nodes.feed(BLANKS, BLANKS, BLANKS, BLANKS, BLANKS);
            nodes.feed(numbers[0], numbers[1], numbers[2], numbers[3], numbers[4]);
            isFault(nodes, 1, 20 + i);
        }
    }

    private static void bytesAbove127() {
        Check.sentence("The four bytes of each number");
        for (int number : new int[] {-1, LOW, HIGH, 0, 0x80808080, 0x00202020}) {
            StreamNodes nodes = new StreamNodes();
            Check.same("feed", nodes.feed(number, BLANKS, BLANKS, BLANKS, BLANKS), 20);
            isFault(nodes, 1, 0);
        }
        StreamNodes last = new StreamNodes();
        last.feed(BLANKS, BLANKS, BLANKS, BLANKS, 0x202020ff);
        isFault(last, 1, 19);
    }

    private static void length() {
        Check.sentence("come to the TAPE: its length");
        StreamNodes nodes = new StreamNodes();
        for (int i = 1; i <= 200; i++) {
            Check.same("feed " + i, nodes.feed(i, i, i, i, i), 20 * i);
            Check.same("count(7)", nodes.count(7), 20 * i);
        }
        nodes.end(3);
        Check.same("feed behind three bytes", nodes.feed(0, 0, 0, 0, 0), 23);
    }

    private static void noRoom() {
        Check.sentence("IllegalStateException: there is no room for 20");
        // More than the 512 calls of the document: no TAPE is filled with fewer.
        for (int length = MOST - 23; length <= MOST - 20; length++) {
            Check.same("feed behind " + length, blanks(length).feed(0, 0, 0, 0, 0), length + 20);
        }
        for (int length = MOST - 19; length < MOST - 15; length++) {
            StreamNodes nodes = blanks(length);
            Check.raises("feed behind " + length, STATE, () -> nodes.feed(0, 0, 0, 0, 0));
        }
        StreamNodes full = blanks(MOST - 20);
        full.feed(0, 0, 0, 0, 0);
        Check.raises("feed behind all", STATE, () -> full.feed(0, 0, 0, 0, 0));
        full.end(MOST - 20);
        Check.same("feed where twenty went", full.feed(0, 0, 0, 0, 0), MOST);
        full.read();
        Check.same("feed behind read", full.feed(0, 0, 0, 0, 0), 20);
    }

    private static void refusedFeed() {
        Check.sentence("THE TAPE: bytes gathered by feed, at most 65,536");
        StreamNodes nodes = blanks(MOST - 20);
        nodes.feed(BLANKS, BLANKS, BLANKS, BLANKS, BLANKS + '#' - ' ');
        Check.raises("feed", STATE, () -> nodes.feed(-1, -1, -1, -1, -1));
        Check.same("count(7)", nodes.count(7), MOST);
        isFault(nodes, 1, MOST - 1);
        StreamNodes good = new StreamNodes();
        Check.feed(good, " ".repeat(MOST - GOOD.length()) + GOOD);
        Check.same("count(7)", good.count(7), MOST);
        isFault(good, 0, 0);
    }

    private static void onlyTheFirst() {
        Check.sentence("Only the first n bytes of the TAPE stay: n");
        for (int n = 0; n <= GOOD.length(); n++) {
            StreamNodes nodes = new StreamNodes();
            Check.feed(nodes, GOOD);
            Check.same("end(" + n + ")", nodes.end(n), n);
            Check.same("count(7)", nodes.count(7), n);
            Check.same("the same end again", nodes.end(n), n);
            int more = n + 1;
            Check.raises("end(" + more + ") behind end(" + n + ")", ARGUMENT, () -> nodes.end(more));
            StreamNodes other = new StreamNodes();
            Check.same("read of the first " + n, nodes.read(), Check.read(other, GOOD.substring(0, n)));
            Check.same("fault(0) of the first " + n, nodes.fault(0), other.fault(0));
            Check.same("fault(1) of the first " + n, nodes.fault(1), other.fault(1));
        }
    }

    /** What stands behind the cut is no more there, though it would have made another sign, word or number. */
    private static void cutAcrossSigns() {
        Check.sentence("Only the first n bytes of the TAPE stay");
        cut(GOOD + " -|- and what else", 1, GOOD.length() + 1);
        cut(GOOD + "|s", 0, 0);
        cut(GOOD + "|#", 0, 0);
        cut(GOOD + " --|\n#", 0, 0);
        String head = GOOD.substring(0, GOOD.indexOf("= x") + 2);
        cut(head + "x -|> 1; tel", 1, head.length() + 3);
        cut(head + "x <|= 1; tel", 1, head.length() + 3);
        cut(head + "x|y; tel", 1, head.length() + 1);
        cut(head + "123456789|0; tel", 1, head.length() + 9);
        cut(head + "x|(1); tel", 1, head.length() + 1);
    }

    /** A text with a mark where it is cut. */
    private static void cut(String marked, int fault, int place) {
        int n = marked.indexOf('|');
        StreamNodes nodes = new StreamNodes();
        Check.feed(nodes, marked.substring(0, n) + marked.substring(n + 1));
        nodes.end(n);
        isFault(nodes, fault, place);
    }

    private static void feedBehindTheCut() {
        Check.sentence("Only the first n bytes of the TAPE stay");
        StreamNodes nodes = new StreamNodes();
        Check.feed(nodes, GOOD + "################");
        nodes.end(GOOD.length() - 4);
        // "tel" and blanks: they stand where what was cut off had stood.
        nodes.feed(0x2074656c, BLANKS, BLANKS, BLANKS, BLANKS);
        isFault(nodes, 0, 0);
    }

    private static void wrongEnds() {
        Check.sentence("IllegalArgumentException: n is not 0 .. its length");
        StreamNodes nodes = new StreamNodes();
        Check.feed(nodes, GOOD);
        for (int n : new int[] {-1, LOW, LOW + 1, GOOD.length() + 1, GOOD.length() + 2, MOST, MOST + 1, HIGH}) {
            Check.raises("end(" + n + ")", ARGUMENT, () -> nodes.end(n));
            Check.same("count(7) after end(" + n + ")", nodes.count(7), GOOD.length());
        }
        isFault(nodes, 0, 0);
    }

    private static void endOfNone() {
        Check.sentence("n is not 0 .. its length");
        StreamNodes nodes = new StreamNodes();
        for (int i = 0; i < 2; i++) {
            Check.same("end(0)", nodes.end(0), 0);
            Check.raises("end(1)", ARGUMENT, () -> nodes.end(1));
            Check.raises("end(-1)", ARGUMENT, () -> nodes.end(-1));
            // After read the TAPE is empty again.
            Check.feed(nodes, GOOD);
            nodes.read();
        }
    }

    private static void lastRead() {
        Check.sentence("Of the last read: what 0 the FAULT (0: none), 1 its place (0)");
        StreamNodes nodes = new StreamNodes();
        Check.same("fault(0) ahead of any read", nodes.fault(0), 0);
        Check.same("fault(1) ahead of any read", nodes.fault(1), 0);
        Check.feed(nodes, "   #");
        Check.same("fault(0) ahead of read", nodes.fault(0), 0);
        isFault(nodes, 1, 3);
        Check.feed(nodes, GOOD);
        Check.same("fault(0) while the next is gathered", nodes.fault(0), 1);
        Check.same("fault(1) while the next is gathered", nodes.fault(1), 3);
        isFault(nodes, 0, 0);
        nodes.tick(5);
        nodes.feed(-1, -1, -1, -1, -1);
        Check.same("fault(0) with a program", nodes.fault(0), 0);
        Check.same("fault(1) with a program", nodes.fault(1), 0);
        isFault(nodes, 1, 0);
        isFault(nodes, 1, 0);
    }

    private static void otherFaults() {
        Check.sentence("Else -1");
        StreamNodes nodes = new StreamNodes();
        for (String text : new String[] {"", " #", GOOD}) {
            for (int what : new int[] {-1, 2, 3, 7, LOW, HIGH}) {
                Check.same("fault(" + what + ")", nodes.fault(what), -1);
            }
            Check.read(nodes, text);
        }
        for (int what : new int[] {-1, 2, LOW, HIGH}) {
            Check.same("fault(" + what + ") with a program", nodes.fault(what), -1);
        }
    }
}
