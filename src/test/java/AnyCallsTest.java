import java.util.NoSuchElementException;
import java.util.Random;

/** Any calls with any arguments in any state, texts among them: nothing is thrown that the face does not name. */
public final class AnyCallsTest {
    private static final String[] PIECES = {"(", ")", ":", ";", ",", "=", "<>", "<", "->", "=>", "+", "-", "*", "node ",
        "returns ", "var ", "let ", "tel ", "int", "bool", " when ", " not ", " and ", " if ", " then ", " else ",
        " pre ", " current ", " fby ", " div ", "true", "1", "x", "y", "f", "c", "\n", "--", "#"};
    private static final String[] GOOD = {
        "node f(x: int) returns (y: int); let y = 0 fby x + y; tel node m(c: bool; x: int) returns (y: int);"
            + " var h: int when c; let h = f(x when c); y = current h; tel ",
        "node g(c: bool) returns (y, z: bool); let y = c; z = pre c; tel node m(c: bool) returns (y, z: bool);"
            + " let (y, z) = g(not c -> z); tel "};
    private final Random random = new Random(7);

    private AnyCallsTest() {
    }

    public static void main(String[] args) {
        AnyCallsTest test = new AnyCallsTest();
        for (int i = 0; i < 400; i++) {
            StreamNodes nodes = new StreamNodes();
            for (int j = 0; j < 500; j++) {
                test.call(nodes);
            }
        }
        for (int i = 0; i < 60; i++) {
            test.longText(i);
        }
        Check.finish(AnyCallsTest.class);
    }

    private int any() {
        int kind = random.nextInt(10);
        return kind == 0 ? random.nextInt() : kind == 1 ? Integer.MIN_VALUE : kind == 2 ? Integer.MAX_VALUE
            : random.nextInt(12) - 2;
    }

    private void call(StreamNodes nodes) {
        int which = random.nextInt(16);
        int length = nodes.count(7);
        boolean good;
        try {
            make(nodes, which);
            good = true;
        } catch (NoSuchElementException e) {
            good = which == 4 || which == 6 || which == 7 || which == 8;
        } catch (IllegalArgumentException e) {
            good = which == 1 || which == 4 || which == 5 || which == 7;
        } catch (IllegalStateException e) {
            good = which == 0 || which == 5 || which == 6 || which >= 9 && which <= 11;
        } catch (RuntimeException e) {
            good = false;
        }
        Check.same("call " + which + " with " + length + " bytes on the tape", good, true);
    }

    private void make(StreamNodes nodes, int which) {
        switch (which) {
            case 0: nodes.feed(any(), any(), any(), any(), any()); break;
            case 1: nodes.end(any()); break;
            case 2: nodes.read(); break;
            case 3: nodes.fault(any()); break;
            case 4: nodes.input(any(), any()); break;
            case 5: nodes.tick(any()); break;
            case 6: nodes.value(any()); break;
            case 7: nodes.about(any(), any()); break;
            case 8: nodes.causes(any(), any()); break;
            case 9: nodes.restart(); break;
            case 10: nodes.keep(); break;
            case 11: nodes.back(); break;
            case 12: nodes.count(any()); break;
            case 13: Check.feed(nodes, PIECES[random.nextInt(PIECES.length)]); break;
            case 14: Check.read(nodes, GOOD[random.nextInt(GOOD.length)]); break;
            default: nodes.end(0); Check.read(nodes, GOOD[random.nextInt(GOOD.length)]);
        }
    }

    /** A full tape of one thing again and again, behind a good beginning. */
    private void longText(int round) {
        String head = random.nextBoolean() ? GOOD[0] : GOOD[0] + "node n(x: int; c: bool) returns (y: int); let y = ";
        StringBuilder text = new StringBuilder(head);
        String piece = PIECES[round % PIECES.length];
        if (round >= PIECES.length) {
            piece += PIECES[random.nextInt(PIECES.length)];
        }
        while (text.length() + piece.length() < 65500) {
            text.append(piece);
        }
        StreamNodes nodes = new StreamNodes();
        int answer = 0;
        try {
            answer = Check.read(nodes, text.toString());
        } catch (RuntimeException e) {
            System.out.println(e);
        }
        Check.same("read of a full tape of " + piece, answer == -1 || answer > 0, true);
    }
}
