import java.lang.management.ManagementFactory;
import java.lang.reflect.Array;
import java.lang.reflect.Field;
import java.lang.reflect.Modifier;
import java.nio.charset.StandardCharsets;
import java.util.ArrayDeque;
import java.util.Collections;
import java.util.IdentityHashMap;
import java.util.Set;

/**
 * What an object makes (rule 12): all of it in its constructor, and that well within the room of a run. Its calls make
 * nothing, however long the text is, and no text is too long for the rows that the constructor made.
 */
public final class RoomTest {
    private static final long OBJECTS_ROOM = 600_000;
    private static final long ELEMENTS_ROOM = 7_300_000;
    private static final int CALLS = 512;
    private static final int TAPE = 65_536;
    private static final String F = "node f(x:int)returns(y:int);let y=x;tel ";
    private static final String MAIN = "node m(a:int)returns(b:int);let ";
    private static final String TAIL = ";tel node n(a:int)returns(b:int);let b=a;tel";

    private final com.sun.management.ThreadMXBean threads;
    private long bytesMade;

    private RoomTest() {
        threads = (com.sun.management.ThreadMXBean) ManagementFactory.getThreadMXBean();
    }

    public static void main(String[] args) {
        constructorMakesAll();
        // The first round only brings the classes in, and what the machine makes on its own with them.
        new RoomTest().measuredCalls();
        RoomTest test = new RoomTest();
        test.measuredCalls();
        Check.same("bytes made by calls", test.bytesMade, 0);
        brims();
        names();
        Check.finish(RoomTest.class);
    }

    private static void constructorMakesAll() {
        StreamNodes nodes = new StreamNodes();
        Set<Object> before = reached(nodes);
        long objects = before.size();
        long elements = elementsOf(before);
        System.out.println("a new object: " + objects + " objects and arrays, " + elements + " fields and elements");
        Check.same("objects of a new object in the room", objects < OBJECTS_ROOM / CALLS, true);
        Check.same("elements of a new object in the room", elements < ELEMENTS_ROOM / 5, true);
        for (String text : new String[] {dearestText(), putInText(), full(";"), MAIN + "b = 0 fby a + b; tel"}) {
            nodes.end(0);
            Check.read(nodes, text);
            useProgram(nodes);
        }
        Set<Object> after = reached(nodes);
        Check.same("no row was left", after.containsAll(before), true);
        Check.same("no row came", before.containsAll(after), true);
    }

    private static void useProgram(StreamNodes nodes) {
        if (nodes.count(0) == 0) {
            return;
        }
        nodes.input(0, 1);
        nodes.tick(3);
        nodes.keep();
        nodes.tick(1);
        nodes.back();
        nodes.causes(1, 0);
        nodes.about(1, 2);
        nodes.value(1);
        nodes.restart();
    }

    /** All objects and arrays that hang on an object, itself among them. */
    private static Set<Object> reached(Object from) {
        Set<Object> all = Collections.newSetFromMap(new IdentityHashMap<>());
        ArrayDeque<Object> due = new ArrayDeque<>();
        due.add(from);
        while (!due.isEmpty()) {
            Object one = due.remove();
            if (all.add(one) && !one.getClass().isArray()) {
                addParts(one, due);
            }
        }
        return all;
    }

    private static void addParts(Object one, ArrayDeque<Object> due) {
        for (Field field : one.getClass().getDeclaredFields()) {
            if (Modifier.isStatic(field.getModifiers()) || field.getType().isPrimitive()) {
                continue;
            }
            try {
                field.setAccessible(true);
                Object part = field.get(one);
                if (part != null) {
                    due.add(part);
                }
            } catch (IllegalAccessException e) {
                Check.same("a look at " + field, false, true);
            }
        }
    }

    private static long elementsOf(Set<Object> all) {
        long elements = 0;
        for (Object one : all) {
            if (one.getClass().isArray()) {
                elements += Array.getLength(one);
            } else {
                for (Field field : one.getClass().getDeclaredFields()) {
                    elements += Modifier.isStatic(field.getModifiers()) ? 0 : 1;
                }
            }
        }
        return elements;
    }

    /** As long as 511 calls of feed can bring it, with as much in it as can be. */
    private static String dearestText() {
        return fill(20 * (CALLS - 1), MAIN + "b=a", "+(1" + "+1".repeat(30) + ")", TAIL);
    }

    /** With as many variables and parts as may be put in. */
    private static String putInText() {
        StringBuilder text = new StringBuilder("node f(a0:int");
        for (int i = 1; i < 98; i++) {
            text.append(";a").append(i).append(":int");
        }
        text.append(")returns(y:int);let y=0 fby y+1;tel node m(a:int)returns(b:int);let b=");
        for (int i = 0; i < 28; i++) {
            text.append(i == 0 ? "f(a" : "+f(a");
            for (int j = 1; j < 98; j++) {
                text.append(",a");
            }
            text.append(")");
        }
        return text.append(";tel").toString();
    }

    /** A tape that is filled to its end with one thing. */
    private static String full(String piece) {
        return piece.repeat(TAPE / piece.length());
    }

    /** Each call of the face by itself, but for those that throw: an exception is an object. */
    private void measuredCalls() {
        bytesMade = 0;
        StreamNodes nodes = new StreamNodes();
        for (String text : new String[] {dearestText(), putInText(), dearestText() + "x", MAIN + "b=pre b;tel"}) {
            measureRead(nodes, text);
            measureRest(nodes);
        }
    }

    private void measureRead(StreamNodes nodes, String text) {
        byte[] bytes = text.getBytes(StandardCharsets.ISO_8859_1);
        long start = threads.getCurrentThreadAllocatedBytes();
        Check.feed(nodes, bytes);
        int answer = nodes.read();
        bytesMade += threads.getCurrentThreadAllocatedBytes() - start;
        Check.same("read of " + text, answer > 0 || text.endsWith("x"), true);
    }

    private void measureRest(StreamNodes nodes) {
        long start = threads.getCurrentThreadAllocatedBytes();
        long sum = 0;
        for (int what = -1; what <= 9; what++) {
            sum += nodes.count(what) + nodes.fault(what);
        }
        useProgram(nodes);
        sum += nodes.end(0);
        bytesMade += threads.getCurrentThreadAllocatedBytes() - start;
        Check.same("the calls answered", sum > Long.MIN_VALUE, true);
    }

    /** Full tapes, each with as many as can be of what has a row of its own. */
    private static void brims() {
        String call = F + MAIN + "b=f(1";
        String sum = "+(1" + "+1".repeat(12) + ")";
        Check.faulty(full(";"), 1, 0);
        Check.faulty(full("("), 1, 0);
        Check.faulty(fill(TAPE, MAIN, "b=1;", " tel"), 2, TAPE - 3);
        Check.faulty(fill(TAPE, F + MAIN + "(b", ",b", ")=f(a); tel"), 2, TAPE - 3);
        Check.faulty(fill(TAPE, call, ",1", ");tel"), 5, (F + MAIN).length());
        Check.faulty(fill(TAPE, call, ",true", ");tel"), 5, (F + MAIN).length());
        Check.faulty(fill(TAPE, MAIN + "b=", "(", ";tel"), 3, MAIN.length() + 2 + 41);
        Check.faulty(fill(TAPE, MAIN + "b=f(", "a,", ");tel"), 2, MAIN.length() + 2);
        Check.faulty(fill(TAPE, MAIN + "b=a", "+a", ";tel"), 3, MAIN.length() + 3 + 2 * 200);
        Check.faulty(fill(TAPE, MAIN + "b=a", sum, ";tel"), 3, MAIN.length() + 3 + sum.length() * 188);
        manyParts();
        brimAfterBrim();
    }

    /** All on one object: each read begins at the front of its rows again. */
    private static void brimAfterBrim() {
        StreamNodes nodes = new StreamNodes();
        String[] texts = {fill(TAPE, MAIN, "b=1;", " tel"), fill(TAPE, F + MAIN + "(b", ",b", ")=f(a); tel"),
            fill(TAPE, F + MAIN + "b=f(1", ",1", ");tel"), full(";")};
        for (int i = 0; i < 3; i++) {
            for (String text : texts) {
                Check.same("read of a full tape", Check.read(nodes, text), -1);
            }
            Check.same("read of a short one", Check.read(nodes, MAIN + "b=a;tel"), 2);
        }
    }

    /** A text of that length: blanks stand ahead of its tail where the piece has no more room. */
    private static String fill(int length, String head, String piece, String tail) {
        String text = head + piece.repeat((length - head.length() - tail.length()) / piece.length());
        return text + " ".repeat(length - text.length() - tail.length()) + tail;
    }

    /** A node with far more parts than may be put in is no fault as long as nothing calls it. */
    private static void manyParts() {
        String sum = "(a" + "+a".repeat(150) + ")";
        String term = "+(" + sum + ("+" + sum).repeat(9) + ")";
        String text = fill(TAPE, MAIN + "b=a", term, TAIL);
        StreamNodes nodes = new StreamNodes();
        Check.same("read of a tape full of parts", Check.read(nodes, text), 2);
        Check.same("its parts", nodes.count(4), 2);
        String alone = fill(TAPE, MAIN + "b=a", term, ";tel");
        Check.faulty(alone, 3, TAPE);
    }

    /** As many names as nodes and variables may have, all different; then one that is not known, and more of them. */
    private static void names() {
        StringBuilder text = new StringBuilder();
        for (int node = 0; node < 59; node++) {
            text.append("node n").append(name(node)).append("(").append(name(100 * node));
            for (int i = 1; i < 98; i++) {
                text.append(",").append(name(100 * node + i));
            }
            String out = name(100 * node + 98);
            text.append(":int)returns(").append(out).append(":int);let ").append(out).append("=");
            if (node < 58) {
                text.append("1;tel ");
            }
        }
        String last = name(5800);
        StreamNodes nodes = Check.program(text + last + "; tel");
        Check.same("variables of the last node", nodes.count(0), 99);
        Check.same("nodes", nodes.count(8), 59);
        Check.same("read once more", Check.read(nodes, text + last + "; tel"), 99);
        StringBuilder more = new StringBuilder();
        for (int i = 6000; i < 9000; i++) {
            more.append("+").append(name(i));
        }
        Check.faultyAt(text + last + "+@nope+" + last + "; tel", 2);
        Check.faultyAt(text + last + "+@nope(1)" + more + "; tel", 2);
        Check.faultyAt(text + last + "; tel @" + more, 1);
    }

    private static String name(int number) {
        // No keyword has a capital.
        return "V" + Integer.toString(number, 36);
    }
}
