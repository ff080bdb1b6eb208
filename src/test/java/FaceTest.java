import java.lang.reflect.Constructor;
import java.lang.reflect.Field;
import java.lang.reflect.Method;
import java.lang.reflect.Modifier;
import java.util.Arrays;
import java.util.NoSuchElementException;
import java.util.TreeSet;

/** The calls of the face one by one: what they answer, what they change, and what they throw. */
public final class FaceTest {
    private static final Class<IllegalStateException> STATE = IllegalStateException.class;
    private static final Class<IllegalArgumentException> ARGUMENT = IllegalArgumentException.class;
    private static final Class<NoSuchElementException> ELEMENT = NoSuchElementException.class;
    private static final String SUM = "node main(c: bool; x: int) returns (s: int; t: bool); var h: int when c;"
        + " k: int when not c; let s = x + (0 -> pre s); t = not c; h = x when c; k = 1; tel";

    private FaceTest() {
    }

    public static void main(String[] args) {
        shape();
        newObject();
        feed();
        fullTape();
        end();
        read();
        fault();
        input();
        tick();
        value();
        about();
        causes();
        restart();
        keepAndBack();
        count();
        Check.finish(FaceTest.class);
    }

    private static void shape() {
        TreeSet<String> members = new TreeSet<>();
        for (Method method : StreamNodes.class.getDeclaredMethods()) {
            if (!Modifier.isPrivate(method.getModifiers())) {
                members.add(method.getName() + Arrays.toString(method.getParameterTypes()) + method.getReturnType());
            }
        }
        for (Field field : StreamNodes.class.getDeclaredFields()) {
            if (!Modifier.isPrivate(field.getModifiers())) {
                members.add(field.getName());
            }
        }
        for (Constructor<?> constructor : StreamNodes.class.getDeclaredConstructors()) {
            members.add("new" + Arrays.toString(constructor.getParameterTypes()));
        }
        TreeSet<String> due = new TreeSet<>(Arrays.asList("new[]", "feed[int, int, int, int, int]int", "end[int]int",
            "read[]int", "fault[int]int", "input[int, int]int", "tick[int]int", "value[int]long", "about[int, int]int",
            "causes[int, int]boolean", "restart[]int", "keep[]void", "back[]int", "count[int]int"));
        Check.same("the face is " + members, members.equals(due), true);
        Check.same("the class is final", Modifier.isFinal(StreamNodes.class.getModifiers()), true);
    }

    private static void newObject() {
        StreamNodes nodes = new StreamNodes();
        for (int what = 0; what <= 8; what++) {
            Check.same("count(" + what + ") of a new object", nodes.count(what), 0);
        }
        Check.same("fault(0) of a new object", nodes.fault(0), 0);
        Check.same("fault(1) of a new object", nodes.fault(1), 0);
        withoutProgram(nodes);
    }

    private static void withoutProgram(StreamNodes nodes) {
        Check.raises("input without a program", ELEMENT, () -> nodes.input(0, 0));
        Check.raises("tick without a program", STATE, () -> nodes.tick(1));
        Check.raises("a wrong tick without a program", ARGUMENT, () -> nodes.tick(0));
        Check.raises("value without a program", ELEMENT, () -> nodes.value(0));
        Check.raises("about without a program", ELEMENT, () -> nodes.about(0, 0));
        Check.raises("causes without a program", ELEMENT, () -> nodes.causes(0, 0) ? 1 : 0);
        Check.raises("restart without a program", STATE, () -> nodes.restart());
        Check.raises("keep without a program", STATE, () -> keep(nodes));
        Check.raises("back without a program", STATE, () -> nodes.back());
        for (int what : new int[] {0, 1, 2, 3, 4, 5, 6, 8}) {
            Check.same("count(" + what + ") without a program", nodes.count(what), 0);
        }
    }

    private static long keep(StreamNodes nodes) {
        nodes.keep();
        return 0;
    }

    private static void feed() {
        StreamNodes nodes = new StreamNodes();
        Check.same("the first feed", nodes.feed(0, 0, 0, 0, 0), 20);
        Check.same("the second feed", nodes.feed(0, 0, 0, 0, 0), 40);
        Check.same("count(7)", nodes.count(7), 40);
        nodes.end(0);
        // "  node f(x: int) re" and then a byte of the last number's highest eight bits.
        nodes.feed(0x20206e6f, 0x64652066, 0x28783a20, 0x696e7429, 0xff726574);
        nodes.read();
        Check.same("the bytes stand in their order, the highest first", nodes.fault(1), 16);
        Check.same("a byte above 127 is no letter", nodes.fault(0), 1);
    }

    private static void fullTape() {
        StreamNodes nodes = new StreamNodes();
        for (int i = 1; i <= 3276; i++) {
            Check.same("feed " + i, nodes.feed(0x20202020, 0x20202020, 0x20202020, 0x20202020, 0x2020200a), 20 * i);
        }
        Check.raises("feed with room for 16", STATE, () -> nodes.feed(1, 2, 3, 4, 5));
        Check.same("count(7) of a full tape", nodes.count(7), 65520);
        nodes.end(65517);
        Check.raises("feed with room for 19", STATE, () -> nodes.feed(1, 2, 3, 4, 5));
        nodes.end(65516);
        Check.same("feed with room for 20", nodes.feed(0, 0, 0, 0, 0), 65536);
        Check.same("read of a full tape", nodes.read(), -1);
        Check.same("place in a full tape", nodes.fault(1), 65516);
    }

    private static void end() {
        StreamNodes nodes = new StreamNodes();
        Check.same("end(0) of an empty tape", nodes.end(0), 0);
        Check.raises("end(1) of an empty tape", ARGUMENT, () -> nodes.end(1));
        nodes.feed(0x6e6f6465, 0x20202020, 0x20202020, 0x20202020, 0x20202020);
        Check.raises("end(-1)", ARGUMENT, () -> nodes.end(-1));
        Check.raises("end(21)", ARGUMENT, () -> nodes.end(21));
        Check.same("count(7) after a refused end", nodes.count(7), 20);
        Check.same("end(20)", nodes.end(20), 20);
        Check.same("end(3)", nodes.end(3), 3);
        Check.same("count(7) after end(3)", nodes.count(7), 3);
        nodes.read();
        Check.same("nod is no word that can stand there", nodes.fault(1), 0);
    }

    private static void read() {
        StreamNodes nodes = Check.program(SUM);
        Check.same("the tape is empty after read", nodes.count(7), 0);
        Check.same("inputs are 0 after read", nodes.input(1, 7), 0);
        nodes.input(0, 1);
        nodes.tick(3);
        nodes.keep();
        Check.same("read again", Check.read(nodes, SUM), 6);
        Check.same("inputs are 0 after another read", nodes.input(1, 7), 0);
        Check.same("inputs are false after another read", nodes.input(0, 0), 0);
        Check.same("no instant was", nodes.count(5), 0);
        Check.raises("value ahead of an instant", STATE, () -> nodes.value(0));
        Check.raises("nothing is kept", STATE, () -> nodes.back());
        nodes.tick(1);
        nodes.keep();
        Check.same("read of a faulty text", Check.read(nodes, SUM + "x"), -1);
        Check.same("the tape is empty after a fault", nodes.count(7), 0);
        withoutProgram(nodes);
        Check.same("read of nothing", nodes.read(), -1);
        Check.same("a program after a fault", Check.read(nodes, SUM), 6);
        Check.values(nodes, 2, 0);
    }

    private static void fault() {
        StreamNodes nodes = new StreamNodes();
        Check.read(nodes, "node main(x: int) returns (y: int); let y = z; tel");
        Check.same("fault(0)", nodes.fault(0), 2);
        Check.same("fault(1)", nodes.fault(1), 44);
        Check.same("fault(2)", nodes.fault(2), -1);
        Check.same("fault(-1)", nodes.fault(-1), -1);
        Check.read(nodes, SUM);
        Check.same("fault(0) after a good read", nodes.fault(0), 0);
        Check.same("fault(1) after a good read", nodes.fault(1), 0);
    }

    private static void input() {
        StreamNodes nodes = Check.program(SUM);
        Check.same("input answers what it was", nodes.input(1, -5), 0);
        Check.same("input answers what it was before", nodes.input(1, Integer.MIN_VALUE), -5);
        Check.same("input again", nodes.input(1, 3), Integer.MIN_VALUE);
        Check.raises("input(-1)", ELEMENT, () -> nodes.input(-1, 0));
        Check.raises("an output is no input", ELEMENT, () -> nodes.input(2, 0));
        Check.raises("no input, and a wrong value", ELEMENT, () -> nodes.input(6, 2));
        Check.raises("2 for a bool", ARGUMENT, () -> nodes.input(0, 2));
        Check.raises("-1 for a bool", ARGUMENT, () -> nodes.input(0, -1));
        Check.same("a refused input changes nothing", nodes.input(0, 1), 0);
        Check.same("a bool that is true", nodes.input(0, 1), 1);
        nodes.tick(1);
        nodes.input(1, 100);
        Check.same("an input is not yet there", nodes.value(1), 3);
        nodes.tick(1);
        Check.same("an input is there", nodes.value(1), 100);
        nodes.tick(5);
        Check.same("an input stays", nodes.value(2), 603);
    }

    private static void tick() {
        StreamNodes nodes = Check.program(SUM);
        nodes.input(1, 1);
        Check.raises("tick(0)", ARGUMENT, () -> nodes.tick(0));
        Check.raises("tick(-1)", ARGUMENT, () -> nodes.tick(-1));
        Check.raises("tick(1001)", ARGUMENT, () -> nodes.tick(1001));
        Check.same("refused ticks bring no instant", nodes.count(5), 0);
        Check.same("tick(1)", nodes.tick(1), 1);
        Check.same("tick(1000)", nodes.tick(1000), 1001);
        Check.same("each instant was", nodes.value(2), 1001);
        Check.same("count(5)", nodes.count(5), 1001);
    }

    private static void value() {
        StreamNodes nodes = Check.program(SUM);
        Check.raises("value ahead of the first instant", STATE, () -> nodes.value(0));
        Check.raises("value of none ahead of the first instant", ELEMENT, () -> nodes.value(6));
        nodes.input(1, -9);
        nodes.tick(1);
        Check.same("a bool that is false", nodes.value(0), 0);
        Check.same("a number", nodes.value(1), -9);
        Check.same("a bool that is true", nodes.value(3), 1);
        Check.same("off its clock", nodes.value(4), 1L << 40);
        Check.same("on not c", nodes.value(5), 1);
        Check.raises("value(6)", ELEMENT, () -> nodes.value(6));
        Check.raises("value(-1)", ELEMENT, () -> nodes.value(-1));
    }

    private static void about() {
        StreamNodes nodes = Check.program("node main(c: bool; x: int) returns (s: int; t: bool); var h: int when c;"
            + " k: bool when not t; l: int when k; m: bool; let s = x; t = c; h = x when c; k = c when not t; l = 1;"
            + " m = true; tel");
        int[][] due = {{0, 1, -1, 0}, {0, 0, -1, 0}, {1, 0, -1, 0}, {1, 1, -1, 0}, {2, 0, 0, 1}, {2, 1, 3, 0},
            {2, 0, 5, 1}, {2, 1, -1, 0}};
        for (int k = 0; k < due.length; k++) {
            for (int what = 0; what < 4; what++) {
                Check.same("about(" + k + ", " + what + ")", nodes.about(k, what), due[k][what]);
            }
        }
        Check.raises("about(8, 0)", ELEMENT, () -> nodes.about(8, 0));
        Check.raises("about(-1, 0)", ELEMENT, () -> nodes.about(-1, 0));
        Check.raises("about(8, 4)", ELEMENT, () -> nodes.about(8, 4));
        Check.raises("about(0, 4)", ARGUMENT, () -> nodes.about(0, 4));
        Check.raises("about(0, -1)", ARGUMENT, () -> nodes.about(0, -1));
    }

    private static void causes() {
        StreamNodes nodes = Check.program(SUM);
        Check.same("a variable is itself", nodes.causes(1, 1), true);
        Check.same("s has x", nodes.causes(2, 1), true);
        Check.same("x has not s", nodes.causes(1, 2), false);
        Check.same("h has c", nodes.causes(4, 0), true);
        Check.same("k has the c of its clock", nodes.causes(5, 0), true);
        Check.raises("causes(6, 0)", ELEMENT, () -> nodes.causes(6, 0) ? 1 : 0);
        Check.raises("causes(0, 6)", ELEMENT, () -> nodes.causes(0, 6) ? 1 : 0);
        Check.raises("causes(-1, 0)", ELEMENT, () -> nodes.causes(-1, 0) ? 1 : 0);
        Check.raises("causes(0, -1)", ELEMENT, () -> nodes.causes(0, -1) ? 1 : 0);
    }

    private static void restart() {
        StreamNodes nodes = Check.program(SUM);
        nodes.input(1, 2);
        Check.same("restart ahead of the first instant", nodes.restart(), 0);
        nodes.tick(4);
        nodes.keep();
        nodes.tick(1);
        Check.same("restart", nodes.restart(), 5);
        Check.same("no instant was", nodes.count(5), 0);
        Check.raises("value after restart", STATE, () -> nodes.value(0));
        Check.raises("keep after restart", STATE, () -> keep(nodes));
        Check.values(nodes, 2, 2, 4);
        Check.same("inputs stay", nodes.input(1, 0), 2);
        Check.same("what is kept stays", nodes.back(), 2);
        Check.same("value as kept", nodes.value(2), 8);
    }

    private static void keepAndBack() {
        StreamNodes nodes = Check.program(SUM);
        Check.raises("keep ahead of the first instant", STATE, () -> keep(nodes));
        Check.raises("back without keep", STATE, () -> nodes.back());
        nodes.input(1, 1);
        nodes.tick(2);
        nodes.keep();
        nodes.input(1, 10);
        nodes.input(0, 1);
        nodes.tick(3);
        Check.same("before back", nodes.value(2), 32);
        Check.same("back", nodes.back(), 5);
        Check.same("count(5) after back", nodes.count(5), 2);
        Check.same("value after back", nodes.value(2), 2);
        Check.same("an input's value after back", nodes.value(1), 1);
        Check.same("a clock after back", nodes.value(4), 1L << 40);
        Check.same("another clock after back", nodes.value(5), 1);
        Check.same("inputs stay", nodes.input(1, 5), 10);
        Check.same("tick after back", nodes.tick(1), 3);
        Check.same("value goes on from what was kept", nodes.value(2), 7);
        Check.same("back twice", nodes.back(), 3);
        Check.same("value after back twice", nodes.value(2), 2);
        nodes.tick(1);
        nodes.keep();
        nodes.tick(1);
        nodes.back();
        Check.same("what was kept before is gone", nodes.value(2), 7);
        nodes.restart();
        Check.same("back after restart", nodes.back(), 0);
        Check.same("keep after back", keep(nodes), 0);
    }

    private static void count() {
        StreamNodes nodes = Check.program("node f(x: int) returns (y: int); let y = 0 fby x; tel"
            + " node g(x: int) returns (y: int); let y = pre x; tel"
            + " node main(c: bool; x: int) returns (a, b, d: int); var h: int when c;"
            + " let a = f(x) -> f(pre x); b = current h; d = 7; h = x when c; tel  ");
        int[] due = {6, 2, 3, 10, 23, 0, 7, 0, 3};
        for (int what = 0; what < due.length; what++) {
            Check.same("count(" + what + ")", nodes.count(what), due[what]);
        }
        Check.same("count(9)", nodes.count(9), -1);
        Check.same("count(-1)", nodes.count(-1), -1);
        nodes.tick(12);
        nodes.feed(1, 2, 3, 4, 5);
        Check.same("count(5) after tick(12)", nodes.count(5), 12);
        Check.same("count(7) after feed", nodes.count(7), 20);
    }
}
