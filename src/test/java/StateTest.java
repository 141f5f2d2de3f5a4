/** Promises 1, 2 and 9, and what the other calls answer when there is nothing for them. */
public final class StateTest {
    public static void main(String[] args) {
        newObject();
        feed();
        clear();
        wrongInputs();
        tapeAfterRead();
        programStaysAfterWrongText();
        Checks.finish();
    }

    private static void newObject() {
        ClosureClasses x = new ClosureClasses();
        dueNothing("new", x);
        Checks.due("the limit is asked first", x.run(-1), ClosureClasses.BAD);
        Checks.due("read(1) of an empty tape", x.read(1), ClosureClasses.BAD);
        Checks.due("read(0) of an empty tape", x.read(0), -1);
    }

    private static void dueNothing(String when, ClosureClasses x) {
        Checks.due(when + ": size", x.size(0), ClosureClasses.STATE);
        Checks.due(when + ": size of none such", x.size(-1), ClosureClasses.STATE);
        Checks.due(when + ": byteAt", x.byteAt(0, 0), ClosureClasses.STATE);
        Checks.due(when + ": byteAt of none such", x.byteAt(-1, -1), ClosureClasses.STATE);
        Checks.due(when + ": run", x.run(10), ClosureClasses.STATE);
        Checks.due(when + ": told", x.told(0), ClosureClasses.STATE);
        Checks.due(when + ": told of none such", x.told(9), ClosureClasses.STATE);
        Checks.due(when + ": part", x.part(0), ClosureClasses.STATE);
    }

    private static void feed() {
        ClosureClasses x = new ClosureClasses();
        for (int i = 1; i <= 200; i++) {
            Checks.due("feed " + i, x.feed(538976288, 538976288, 538976288, 538976288, 538976288), 20 * i);
        }
        Checks.due("feed 201", x.feed(0, 0, 0, 0, 0), ClosureClasses.FULL);
        Checks.due("what FULL refused is not there", x.read(4001), ClosureClasses.BAD);
        Checks.due("BAD empties the tape", x.feed(0, 0, 0, 0, 0), 20);

        ClosureClasses y = new ClosureClasses();
        // m=12;n=345;o=6;pq=7; with the highest byte first in each number
        y.feed(0x6D3D3132, 0x3B6E3D33, 0x34353B6F, 0x3D363B70, 0x713D373B);
        Checks.due("read of twenty bytes", y.read(20), 4);
        Checks.due("bytes in order", Checks.bytesOf(y, 1), "0 0 0 10 0 0 1 89");
        y.feed(0x6D3D31FF, -1, Integer.MIN_VALUE, 0, 0);
        Checks.due("bytes above 127", y.read(20), -1 - 3);
    }

    private static void tapeAfterRead() {
        ClosureClasses x = new ClosureClasses();
        Checks.feedText(x, "m = 1;");
        Checks.due("read of a part of the tape", x.read(6), 1);
        Checks.due("the tape is empty then", x.read(1), ClosureClasses.BAD);
        Checks.feedText(x, "m = 1;");
        Checks.due("read(5) of it", x.read(5), -6);
        Checks.due("the tape is empty after a WRONG text", x.feed(0, 0, 0, 0, 0), 20);
        Checks.due("read(21) of 20", x.read(21), ClosureClasses.BAD);
        Checks.due("the tape is empty after BAD", x.feed(0, 0, 0, 0, 0), 20);
        Checks.due("read below 0", x.read(-1), ClosureClasses.BAD);
        Checks.due("read of the least int", x.read(Integer.MIN_VALUE), ClosureClasses.BAD);
        Checks.due("the tape is empty after that, too", x.read(1), ClosureClasses.BAD);
    }

    private static void clear() {
        ClosureClasses x = Checks.program("m = #1(2);");
        Checks.due("run", x.run(10), 2);
        Checks.feedText(x, "m = 1;");
        x.clear();
        dueNothing("cleared", x);
        Checks.due("cleared: the tape", x.read(1), ClosureClasses.BAD);
        Checks.due("cleared: read", Checks.readText(x, "m = 3;"), 1);
        Checks.due("cleared: no run", x.told(0), ClosureClasses.STATE);
        Checks.due("cleared: run", x.run(0), 0);
        Checks.due("cleared: told", x.told(0), 3);
    }

    private static void wrongInputs() {
        ClosureClasses x = Checks.program("m = \\x. #1(x);");
        Checks.due("size(-1)", x.size(-1), ClosureClasses.BAD);
        Checks.due("size(2)", x.size(2), ClosureClasses.BAD);
        Checks.due("size(max)", x.size(Integer.MAX_VALUE), ClosureClasses.BAD);
        Checks.due("size(min)", x.size(Integer.MIN_VALUE), ClosureClasses.BAD);
        Checks.due("size(0)", x.size(0), 6);
        Checks.due("byteAt(0, 5)", x.byteAt(0, 5), 1);
        Checks.due("byteAt(0, 6)", x.byteAt(0, 6), ClosureClasses.BAD);
        Checks.due("byteAt(0, -1)", x.byteAt(0, -1), ClosureClasses.BAD);
        Checks.due("byteAt(0, max)", x.byteAt(0, Integer.MAX_VALUE), ClosureClasses.BAD);
        Checks.due("byteAt(-1, 0)", x.byteAt(-1, 0), ClosureClasses.BAD);
        Checks.due("byteAt(2, 0)", x.byteAt(2, 0), ClosureClasses.BAD);
        Checks.due("told before a run", x.told(0), ClosureClasses.STATE);
        Checks.due("told(6) before a run", x.told(6), ClosureClasses.STATE);
        Checks.due("run(-1)", x.run(-1), ClosureClasses.BAD);
        Checks.due("run(20001)", x.run(20001), ClosureClasses.BAD);
        Checks.due("BAD is no run", x.told(0), ClosureClasses.STATE);
        Checks.due("run(20000)", x.run(20000), 1);
        Checks.due("told(-1)", x.told(-1), ClosureClasses.BAD);
        Checks.due("told(6)", x.told(6), ClosureClasses.BAD);
        Checks.due("told(min)", x.told(Integer.MIN_VALUE), ClosureClasses.BAD);
        Checks.due("told(max)", x.told(Integer.MAX_VALUE), ClosureClasses.BAD);
        Checks.due("part of a function", x.part(0), ClosureClasses.STATE);
        Checks.due("no m", Checks.program("n = 1;").run(5), ClosureClasses.STATE);
        Checks.due("m has parameters", Checks.program("m x = 1;").run(5), ClosureClasses.STATE);
        Checks.due("m is the last", Checks.program("a = 1; m = 2;").run(5), 0);
    }

    private static void programStaysAfterWrongText() {
        ClosureClasses x = Checks.program("m = #7(1, 2);");
        Checks.due("run", x.run(0), 2);
        Checks.due("a WRONG text", Checks.readText(x, "m = ;"), -5);
        Checks.due("BAD", x.read(1), ClosureClasses.BAD);
        Checks.due("the run before is told still", x.told(0), 7);
        Checks.due("its parts are there", x.part(1), 0);
        Checks.due("their values too", x.told(0), 2);
        Checks.due("the units before", x.size(0), 17);
        Checks.due("run again", x.run(0), 2);
        Checks.due("another program", Checks.readText(x, "m = #7(1, 2);"), 1);
        Checks.due("has no run yet", x.told(0), ClosureClasses.STATE);
        Checks.due("nor parts", x.part(0), ClosureClasses.STATE);
    }
}
