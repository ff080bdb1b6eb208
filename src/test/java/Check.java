import java.nio.charset.StandardCharsets;
import java.util.function.LongSupplier;

/** What the tests share: texts brought to the tape, answers compared, and the count of both outcomes. */
final class Check {
    private static int passed = 0;
    private static int failed = 0;
    private static String sentence = "";

    private Check() {
    }

    /** The document's sentence that is tested from here on: it is told with each answer that is not due. */
    static void sentence(String words) {
        sentence = "\"" + words + "\": ";
    }

    static void feed(StreamNodes nodes, String text) {
        feed(nodes, text.getBytes(StandardCharsets.ISO_8859_1));
    }

    static void feed(StreamNodes nodes, byte[] bytes) {
        int before = nodes.count(7);
        for (int at = 0; at < bytes.length; at += 20) {
            // Near the tape's end there is no room for blanks: the last twenty bytes come whole.
            int from = before + at + 20 > 65536 ? bytes.length - 20 : at;
            nodes.end(before + from);
            nodes.feed(four(bytes, from), four(bytes, from + 4), four(bytes, from + 8), four(bytes, from + 12),
                four(bytes, from + 16));
        }
        nodes.end(before + bytes.length);
    }

    private static int four(byte[] bytes, int at) {
        int number = 0;
        for (int i = at; i < at + 4; i++) {
            number = number << 8 | (i < bytes.length ? bytes[i] & 255 : 32);
        }
        return number;
    }

    static int read(StreamNodes nodes, String text) {
        feed(nodes, text);
        return nodes.read();
    }

    /** A program that has to be free of faults. */
    static StreamNodes program(String text) {
        StreamNodes nodes = new StreamNodes();
        int variables = read(nodes, text);
        same("fault of " + text, nodes.fault(0), 0);
        same("place of the fault of " + text, nodes.fault(1), 0);
        same("read of " + text + " answers the variables as put in", variables, nodes.count(3));
        return nodes;
    }

    static void faulty(String text, int fault, int place) {
        StreamNodes nodes = new StreamNodes();
        same("read of " + text, read(nodes, text), -1);
        same("fault of " + text, nodes.fault(0), fault);
        same("place of the fault of " + text, nodes.fault(1), place);
    }

    /** The place of the fault is told by a mark in the text, which is left out. */
    static void faultyAt(String marked, int fault) {
        int place = marked.indexOf('@');
        faulty(marked.substring(0, place) + marked.substring(place + 1), fault, place);
    }

    static void values(StreamNodes nodes, int k, long... due) {
        for (int i = 0; i < due.length; i++) {
            nodes.tick(1);
            same("value(" + k + ") at instant " + nodes.count(5), nodes.value(k), due[i]);
        }
    }

    static void same(String what, long got, long due) {
        if (got == due) {
            passed++;
        } else {
            failed++;
            System.out.println(sentence + inOneLine(what) + ": answered " + got + ", due is " + due);
        }
    }

    static void same(String what, boolean got, boolean due) {
        same(what, got ? 1 : 0, due ? 1 : 0);
    }

    static void raises(String what, Class<? extends RuntimeException> due, LongSupplier call) {
        String got;
        try {
            got = "answer " + call.getAsLong();
        } catch (RuntimeException e) {
            got = e.getClass().getName();
        }
        if (got.equals(due.getName())) {
            passed++;
        } else {
            failed++;
            System.out.println(sentence + what + ": " + got + ", due is " + due.getName());
        }
    }

    /** Long texts lose their middle. */
    private static String inOneLine(String what) {
        String line = what.replace("\n", "\\n");
        int length = line.length();
        return length <= 400 ? line : line.substring(0, 200) + " ... " + line.substring(length - 200);
    }

    static void finish(Class<?> test) {
        System.out.println(test.getName() + ": " + passed + " answers as due, " + failed + " not");
        if (failed > 0 || passed == 0) {
            System.exit(1);
        }
    }
}
