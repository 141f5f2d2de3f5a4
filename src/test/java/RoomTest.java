import java.lang.management.ManagementFactory;
import java.util.ArrayList;
import java.util.List;

/**
 * All calls on one object live in one room of some 600,000 objects and 7.3 million fields and
 * elements. An object takes 16 bytes at least, a field or element that the class uses 4, so a
 * count of bytes shows that both are kept.
 */
public final class RoomTest {
    private static final long BYTES_OF_OBJECTS = 600000L * 16, BYTES_OF_FIELDS = 7300000L * 4;

    public static void main(String[] args) {
        manySmallReads();
        denseReads();
        manyRuns();
        wideObjects();
        Checks.finish();
    }

    private static long bytesMade() {
        return ((com.sun.management.ThreadMXBean) ManagementFactory.getThreadMXBean()).getCurrentThreadAllocatedBytes();
    }

    private static void dueBelow(String what, long bytes, long bound) {
        System.out.println(what + ": " + bytes + " bytes");
        Checks.due(what + " stay in the room", bytes < bound ? 1 : bytes, 1);
    }

    private static void manySmallReads() {
        ClosureClasses x = new ClosureClasses();
        long before = bytesMade();
        for (int i = 0; i < 256; i++) {
            // m=(1#1#1#1#1#1#1);
            x.feed(0x6D3D2831, 0x23312331, 0x23312331, 0x23312331, 0x293B2020);
            x.read(20);
        }
        dueBelow("256 small reads", bytesMade() - before, BYTES_OF_OBJECTS);
    }

    private static void denseReads() {
        StringBuilder text = new StringBuilder();
        for (int d = 0; d < 31; d++) {
            text.append((char) ('a' + d % 26)).append((char) ('a' + d / 26)).append("=#1(");
            text.append(Checks.times("#1(#0,#0,#0,#0,#0,#0),", 5)).append("#1(#0));");
        }
        ClosureClasses x = new ClosureClasses();
        long before = bytesMade();
        for (int i = 0; i < 2; i++) {
            Checks.due("dense read", Checks.readText(x, text.toString()), 31 * 38);
        }
        dueBelow("dense reads", bytesMade() - before, BYTES_OF_OBJECTS);
    }

    private static void manyRuns() {
        ClosureClasses x = Checks.program("f x = ! x (f #1(x)); m = (f 1);");
        long before = bytesMade();
        for (int i = 0; i < 509; i++) {
            x.run(20000);
        }
        Checks.due("objects", x.told(2), 3000);
        dueBelow("509 runs of 3000 objects", bytesMade() - before, BYTES_OF_OBJECTS);
    }

    /** 3000 delayed terms that captured 150 names each: the parameters of a definition and 24 functions in it. */
    private static void wideObjects() {
        List<String> names = new ArrayList<>();
        StringBuilder text = new StringBuilder("q");
        for (int i = 0; i < 150; i++) {
            names.add("" + (char) ('a' + i / 6) + (char) ('p' + i % 6));
            text.append(i % 6 == 0 && i > 0 ? "\\" : " ").append(names.get(i));
            text.append(i % 6 < 5 ? "" : i == 5 ? " = " : ".");
        }
        text.append("let g = \\n. (g ").append(tellAll(names)).append(") in (g 1); m = ");
        text.append(Checks.times("(", 25)).append("q").append(Checks.times(" 1 2 3 4 5 6)", 25)).append(";");
        ClosureClasses x = Checks.program(text.toString());
        long before = bytesMade();
        for (int i = 0; i < 300; i++) {
            Checks.due("run", x.run(20000), -4);
        }
        Checks.due("objects", x.told(2), 3000);
        dueBelow("runs of wide objects", bytesMade() - before, BYTES_OF_FIELDS);
    }

    /** A constructor, nested as need be, in whose parts the names are told. */
    private static String tellAll(List<String> names) {
        if (names.size() <= 6) {
            return "(" + String.join(" ", names) + ")";
        }
        int each = (names.size() + 5) / 6;
        List<String> parts = new ArrayList<>();
        for (int from = 0; from < names.size(); from += each) {
            parts.add(tellAll(names.subList(from, Math.min(names.size(), from + each))));
        }
        return "#1(" + String.join(",", parts) + ")";
    }
}
