/**
 * The edges of each call, sentence by sentence of the document: what is refused, what a refused
 * call leaves as it was, and what there is at the first and the last number that is taken.
 */
public final class EdgesOfCallsTest {
    private static final int STATE = ClosureClasses.STATE, BAD = ClosureClasses.BAD, FULL = ClosureClasses.FULL;
    private static final int BLANKS = 0x20202020;
    private static final int[] BELOW = {-1, -2, -1000, Integer.MIN_VALUE};

    public static void main(String[] args) {
        manyRuns();
        manyReads();
        manyParts();
        manyOfAll();
        newObject();
        feedCounts();
        feedOrder();
        feedFull();
        wholeTape();
        readEmptiesTheTape();
        readWrong();
        readWrongAtFirst();
        readBad();
        readAnother();
        size();
        byteAt();
        runBad();
        runState();
        runAnswers();
        toldState();
        toldBad();
        toldOfEachResult();
        partState();
        partLimit();
        partObjects();
        partDepth();
        partIsTheResult();
        partsAreSetOnce();
        clear();
        Checks.finish();
    }

    private static int feedBlanks(ClosureClasses x) {
        return x.feed(BLANKS, BLANKS, BLANKS, BLANKS, BLANKS);
    }

    private static void manyRuns() {
        Checks.sentence("An object is used for at most 512 calls: the 512th answers as the first");
        ClosureClasses x = new ClosureClasses();
        // two calls for the program, then 510 more
        Checks.due("read", Checks.readText(x, "f n=(f n);m=(f 1);"), 2);
        for (int call = 3; call <= 512; call++) {
            Checks.due("run as call " + call, x.run(20 * call), -5);
        }
        ClosureClasses y = new ClosureClasses();
        Checks.due("read", Checks.readText(y, "m=let x=#1(x)in x;"), 2);
        Checks.due("run", y.run(0), 2);
        for (int call = 4; call <= 511; call++) {
            Checks.due("part as call " + call, y.part(0), 2);
        }
        Checks.due("told as call 512", y.told(2), 2);
    }

    private static void manyReads() {
        Checks.sentence("An object is used for at most 512 calls: each PROGRAM is a new one");
        ClosureClasses x = new ClosureClasses();
        for (int i = 0; i < 170; i++) {
            Checks.due("read " + i, Checks.readText(x, "m = #1(" + i + ", ? 1);"), 2);
            Checks.due("byte of " + i, x.byteAt(0, 11), i);
        }
        // two reads of a tape that is nearly full
        ClosureClasses y = new ClosureClasses();
        for (int i = 0; i < 2; i++) {
            StringBuilder text = new StringBuilder();
            for (int d = 0; d < 39; d++) {
                text.append((char) ('a' + d % 26)).append((char) ('a' + d / 26)).append("=#1(");
                text.append(Checks.times("#1(#0,#0,#0,#0),", 5)).append("#1(#0));");
            }
            Checks.due("read of 39 times 28 units", Checks.readText(y, text.toString()), 39 * 28);
            Checks.due("size of the last", y.size(39 * 28 - 1), 7);
        }
    }

    private static void manyParts() {
        Checks.sentence("An object is used for at most 512 calls: parts of parts");
        ClosureClasses x = new ClosureClasses();
        Checks.due("read", Checks.readText(x, "l n = #1(n, (l + n 1)); m = (l 0);"), 4);
        Checks.due("run", x.run(20000), 2);
        // 2 feeds, read and run are 4 calls; each part(1) is a step
        for (int i = 1; i <= 507; i++) {
            Checks.due("part(1)", x.part(1), 2);
        }
        // of a call are: the argument, the constructor, its second part
        Checks.due("told(2) as call 512", x.told(2), 2 + 3 * 507);
    }

    private static void manyOfAll() {
        Checks.sentence("An object is used for at most 512 calls: no later call fails to end");
        ClosureClasses x = new ClosureClasses();
        for (int i = 0; i < 300; i++) {
            Checks.readText(x, "m = #1(m, 2);");
            x.run(20000);
            x.told(0);
            x.part(0);
            x.size(0);
            x.byteAt(0, 0);
            if (i % 7 == 0) {
                x.clear();
            }
        }
        Checks.due("it ends", 1, 1);
    }

    private static void dueNoProgram(String when, ClosureClasses x) {
        for (int n : new int[] {0, 1, -1, 5, 6, Integer.MIN_VALUE, Integer.MAX_VALUE}) {
            Checks.due(when + ": size(" + n + ")", x.size(n), STATE);
            Checks.due(when + ": byteAt(" + n + ", 0)", x.byteAt(n, 0), STATE);
            Checks.due(when + ": byteAt(0, " + n + ")", x.byteAt(0, n), STATE);
            Checks.due(when + ": told(" + n + ")", x.told(n), STATE);
            Checks.due(when + ": part(" + n + ")", x.part(n), STATE);
        }
        for (int limit : new int[] {0, 1, 20000}) {
            Checks.due(when + ": run(" + limit + ")", x.run(limit), STATE);
        }
    }

    private static void newObject() {
        Checks.sentence("ClosureClasses(): No PROGRAM, an empty tape");
        dueNoProgram("new", new ClosureClasses());
        Checks.due("read(1)", new ClosureClasses().read(1), BAD);
        Checks.due("read(0)", new ClosureClasses().read(0), -1);
        Checks.due("feed", feedBlanks(new ClosureClasses()), 20);
        // one object has nothing of another one
        ClosureClasses x = Checks.program("m = #1(2);");
        Checks.due("run", x.run(9), 2);
        feedBlanks(x);
        dueNoProgram("another one", new ClosureClasses());
        Checks.due("another one's tape", feedBlanks(new ClosureClasses()), 20);
    }

    private static void feedCounts() {
        Checks.sentence("Twenty bytes come behind the tape: how many it has");
        ClosureClasses x = new ClosureClasses();
        Checks.due("first", x.feed(0, 0, 0, 0, 0), 20);
        Checks.due("second", x.feed(-1, -1, -1, -1, -1), 40);
        Checks.due("third", x.feed(Integer.MIN_VALUE, Integer.MAX_VALUE, 1, 2, 3), 60);
    }

    private static void feedOrder() {
        Checks.sentence("each number's highest first");
        for (int place = 0; place < 40; place++) {
            int[] numbers = new int[10];
            java.util.Arrays.fill(numbers, BLANKS);
            int shift = 24 - 8 * (place % 4);
            numbers[place / 4] = BLANKS & ~(255 << shift) | 200 << shift;
            ClosureClasses x = new ClosureClasses();
            x.feed(numbers[0], numbers[1], numbers[2], numbers[3], numbers[4]);
            x.feed(numbers[5], numbers[6], numbers[7], numbers[8], numbers[9]);
            Checks.due("an unknown byte at " + place, x.read(40), -1 - place);
        }
        ClosureClasses y = new ClosureClasses();
        // m=1234567;n=7654321;
        y.feed(0x6D3D3132, 0x33343536, 0x373B6E3D, 0x37363534, 0x3332313B);
        Checks.due("read", y.read(20), 2);
        Checks.due("unit 0", Checks.bytesOf(y, 0), "0 0 0 10 0 18 214 135");
        Checks.due("unit 1", Checks.bytesOf(y, 1), "0 0 0 10 0 116 203 177");
    }

    private static void feedFull() {
        Checks.sentence("FULL: there would be more than 4000");
        ClosureClasses x = new ClosureClasses();
        Checks.due("the first", x.feed(0x6D3D373B, BLANKS, BLANKS, BLANKS, BLANKS), 20);
        for (int i = 2; i <= 199; i++) {
            Checks.due("feed " + i, feedBlanks(x), 20 * i);
        }
        Checks.due("feed 200", feedBlanks(x), 4000);
        for (int i = 0; i < 3; i++) {
            Checks.due("feed of one more", x.feed(-1, -1, -1, -1, -1), FULL);
        }
        Checks.due("what was there is there still", x.read(4000), 1);
        Checks.due("run", x.run(0), 0);
        Checks.due("told", x.told(0), 7);
        Checks.due("the tape has room again", feedBlanks(x), 20);
    }

    private static void wholeTape() {
        Checks.sentence("The tape's first n bytes are a PROGRAM: up to 4000");
        String text = "m = 7;" + Checks.times(" ", 3988) + "n = 8;";
        ClosureClasses x = new ClosureClasses();
        Checks.due("4000 bytes", Checks.readText(x, text), 2);
        Checks.due("the last of them", x.size(1), 8);
        ClosureClasses y = new ClosureClasses();
        Checks.feedText(y, text);
        Checks.due("3999 bytes", y.read(3999), -1 - 3999);
        ClosureClasses z = new ClosureClasses();
        Checks.feedText(z, text);
        Checks.due("3994 bytes", z.read(3994), 1);
        ClosureClasses w = new ClosureClasses();
        Checks.due("WRONG at the last byte", Checks.readText(w, text.substring(0, 3999) + "$"), -1 - 3999);
        ClosureClasses v = new ClosureClasses();
        Checks.feedText(v, text);
        Checks.due("4001 bytes", v.read(4001), BAD);
    }

    private static void readEmptiesTheTape() {
        Checks.sentence("the tape is empty then");
        String[] texts = {"m = 7;", "m = ;"};
        for (String text : texts) {
            ClosureClasses x = new ClosureClasses();
            Checks.feedText(x, text + Checks.times(" ", 40));
            Checks.due("read of " + text, x.read(text.length()), text.equals("m = 7;") ? 1 : -5);
            Checks.due("read(1) behind it", x.read(1), BAD);
            Checks.due("feed behind it", feedBlanks(x), 20);
            // nothing of what was there is there
            Checks.due("read(20) behind it", x.read(20), -1 - 20);
        }
        ClosureClasses y = new ClosureClasses();
        Checks.feedText(y, "m = 7;");
        Checks.due("read(0)", y.read(0), -1);
        Checks.due("feed behind it", feedBlanks(y), 20);
    }

    private static void readWrong() {
        Checks.sentence("-1 less the place at which it is WRONG (then there is the one before)");
        ClosureClasses x = Checks.program("m = #7(+ 1 2, 9);");
        Checks.due("run", x.run(5), 2);
        String told = Checks.toldAll(x);
        String bytes = Checks.bytesOf(x, 0);
        for (String text : new String[] {"", "n", "n = $;", "n = 1; n = 2;", "m = a;", "m x = 1;;"}) {
            int answer = Checks.readText(x, text);
            Checks.due("read of " + text + " is WRONG", answer < 0 && answer != BAD ? 1 : answer, 1);
            Checks.due("units after " + text, x.size(1), 15);
            Checks.due("no more units after " + text, x.size(2), BAD);
            Checks.due("bytes after " + text, Checks.bytesOf(x, 0), bytes);
            Checks.due("told after " + text, Checks.toldAll(x), told);
        }
        Checks.due("its part is there, with what is left", x.part(0), 0);
        Checks.due("told", Checks.toldAll(x), "3 1 2 1 2 0");
        Checks.due("run again", x.run(5), 2);
        Checks.due("told again", Checks.toldAll(x), told);
    }

    private static void readWrongAtFirst() {
        Checks.sentence("then there is the one before: none, if there was none");
        ClosureClasses x = new ClosureClasses();
        Checks.due("read", Checks.readText(x, "m = 1; n = ;"), -1 - 11);
        dueNoProgram("a WRONG text", x);
        Checks.due("a name that means nothing", Checks.readText(x, "m = a;"), -1 - 4);
        dueNoProgram("another WRONG text", x);
        Checks.due("read", Checks.readText(x, "m = 1;"), 1);
        Checks.due("run", x.run(0), 0);
    }

    private static void readBad() {
        Checks.sentence("BAD: n is below 0 or above what the tape has (it is empty then, too)");
        ClosureClasses x = Checks.program("m = #7(1);");
        Checks.due("run", x.run(0), 2);
        for (int n : new int[] {-1, Integer.MIN_VALUE, 21, 22, 4000, 4001, Integer.MAX_VALUE}) {
            Checks.feedText(x, "m = 5;");
            Checks.due("read(" + n + ") of 20", x.read(n), BAD);
            Checks.due("the tape is empty", x.read(1), BAD);
            Checks.due("the tape is empty", feedBlanks(x), 20);
            x.read(0);
            Checks.due("the PROGRAM is there", x.size(0), 12);
            Checks.due("its RUN is there", x.told(0), 7);
        }
        for (int n : new int[] {6, 19, 20}) {
            Checks.feedText(x, "m = 5;");
            Checks.due("read(" + n + ") of 20", x.read(n), 1);
        }
        Checks.due("read(1) of none", x.read(1), BAD);
        Checks.due("read(0) of none", x.read(0), -1);
        feedBlanks(x);
        feedBlanks(x);
        Checks.due("read(41) of 40", x.read(41), BAD);
        feedBlanks(x);
        feedBlanks(x);
        Checks.due("read(40) of 40", x.read(40), -1 - 40);
    }

    private static void readAnother() {
        Checks.sentence("told: STATE: there was none of this PROGRAM");
        ClosureClasses x = Checks.program("m = #7(1, 2);");
        Checks.due("run", x.run(0), 2);
        Checks.due("read of another one", Checks.readText(x, "m = #7(1, 2);"), 1);
        Checks.due("told(0)", x.told(0), STATE);
        Checks.due("told(6)", x.told(6), STATE);
        Checks.due("part(0)", x.part(0), STATE);
        Checks.due("run", x.run(0), 2);
        Checks.due("told(0)", x.told(0), 7);
        Checks.due("read of one without m", Checks.readText(x, "n = #8(1, 2);"), 1);
        Checks.due("run", x.run(0), STATE);
        Checks.due("told(0)", x.told(0), STATE);
        Checks.due("part(0)", x.part(0), STATE);
    }

    private static void size() {
        Checks.sentence("How many bytes UNIT u has. STATE: no PROGRAM; BAD: no such");
        ClosureClasses x = Checks.program("m = (1 \\x. x ? 3);");
        Checks.due("size(0)", x.size(0), 16);
        Checks.due("size(1)", x.size(1), 6);
        Checks.due("size(2)", x.size(2), 5);
        for (int u : new int[] {3, 4, 1000, Integer.MAX_VALUE}) {
            Checks.due("size(" + u + ")", x.size(u), BAD);
        }
        for (int u : BELOW) {
            Checks.due("size(" + u + ")", x.size(u), BAD);
            Checks.due("size(" + u + ") of no PROGRAM", new ClosureClasses().size(u), STATE);
        }
        Checks.due("size(0) of no PROGRAM", new ClosureClasses().size(0), STATE);
        // a shorter PROGRAM has fewer
        Checks.due("read", Checks.readText(x, "m = ? 3;"), 1);
        Checks.due("size(0)", x.size(0), 5);
        Checks.due("size(1)", x.size(1), BAD);
    }

    private static void byteAt() {
        Checks.sentence("Byte i of UNIT u, 0 .. 255. STATE; BAD");
        ClosureClasses x = Checks.program("m = (1 \\x. x ? 3);");
        int[] sizes = {16, 6, 5};
        int[] lasts = {2, 0, 3};
        for (int u = 0; u < 3; u++) {
            Checks.due("the first byte of " + u, x.byteAt(u, 0), u);
            Checks.due("the last byte of " + u, x.byteAt(u, sizes[u] - 1), lasts[u]);
            Checks.due("one behind of " + u, x.byteAt(u, sizes[u]), BAD);
            Checks.due("far behind of " + u, x.byteAt(u, Integer.MAX_VALUE), BAD);
            for (int i : BELOW) {
                Checks.due("byteAt(" + u + ", " + i + ")", x.byteAt(u, i), BAD);
            }
        }
        for (int u : new int[] {3, 4, Integer.MAX_VALUE, -1, Integer.MIN_VALUE}) {
            Checks.due("byteAt(" + u + ", 0)", x.byteAt(u, 0), BAD);
            Checks.due("byteAt(" + u + ", -1)", x.byteAt(u, -1), BAD);
        }
        ClosureClasses none = new ClosureClasses();
        Checks.due("no PROGRAM", none.byteAt(0, 0), STATE);
        Checks.due("no PROGRAM, nor such a byte", none.byteAt(-1, -1), STATE);
        ClosureClasses y = Checks.program("m = @ 2139062143 { _ : 2147483647; };");
        Checks.due("bytes from 127 to 255", Checks.bytesOf(y, 0), "0 0 0 16 10 127 127 127 127 1 255 255 0 0 5 10 127 255 255 255");
        Checks.due("a byte of 128", Checks.bytesOf(Checks.program("m = 8421504;"), 0), "0 0 0 10 0 128 128 128");
    }

    private static void runBad() {
        Checks.sentence("A RUN with a LIMIT (0 .. 20000; BAD)");
        ClosureClasses x = Checks.program("m = #7(1);");
        for (int limit : new int[] {-1, -2, Integer.MIN_VALUE, 20001, 20002, Integer.MAX_VALUE}) {
            Checks.due("run(" + limit + ")", x.run(limit), BAD);
            Checks.due("there was no RUN", x.told(0), STATE);
        }
        for (int limit : new int[] {0, 1, 19999, 20000}) {
            Checks.due("run(" + limit + ")", x.run(limit), 2);
            Checks.due("there was a RUN", x.told(0), 7);
        }
        String told = Checks.toldAll(x);
        Checks.due("run(-1)", x.run(-1), BAD);
        Checks.due("run(20001)", x.run(20001), BAD);
        Checks.due("the RUN before is the latest", Checks.toldAll(x), told);
        Checks.due("its part is there", x.part(0), 0);
        // the LIMIT is asked for ahead of the PROGRAM, as it stands first
        Checks.due("run(-1) of no PROGRAM", new ClosureClasses().run(-1), BAD);
        Checks.due("run(20001) of no m", Checks.program("n = 1;").run(20001), BAD);
    }

    private static void runState() {
        Checks.sentence("STATE: no PROGRAM, or no m");
        Checks.due("no PROGRAM", new ClosureClasses().run(0), STATE);
        Checks.due("no m", Checks.program("n = 1;").run(0), STATE);
        Checks.due("an m with a parameter", Checks.program("m a = 1;").run(0), STATE);
        Checks.due("an m", Checks.program("m = 1;").run(0), 0);
    }

    private static void runAnswers() {
        Checks.sentence("0 an INT, 1 a function, 2 a constructor, or the fault (-1 to -7), or 100 more than the k of a fault k");
        Checks.due("an INT", Checks.program("m = - 0 5;").run(9), 0);
        Checks.due("a function", Checks.program("m = \\x. x;").run(9), 1);
        Checks.due("a constructor", Checks.program("m = #0;").run(9), 2);
        Checks.due("a constructor with parts", Checks.program("m = #0(0);").run(9), 2);
        Checks.due("-1", Checks.program("m = / 1 0;").run(9), -1);
        Checks.due("-2", Checks.program("m = + 1 #0;").run(9), -2);
        Checks.due("-3", Checks.program("m = m;").run(9), -3);
        Checks.due("-4", Checks.program("f x = ! x (f + x 1); m = (f 1);").run(20000), -4);
        Checks.due("-5", Checks.program("f x = (f x); m = (f 1);").run(20000), -5);
        Checks.due("-6", Checks.program("m = @ #1 { 0 : 1; };").run(9), -6);
        Checks.due("-7", Checks.program("f x = + 1 (f x); m = (f 1);").run(20000), -7);
        Checks.due("fault 0", Checks.program("m = ? 0;").run(9), 100);
        Checks.due("fault 99", Checks.program("m = ? 99;").run(9), 199);
    }

    private static void toldState() {
        Checks.sentence("told: STATE: there was none of this PROGRAM");
        ClosureClasses x = Checks.program("m = 7;");
        for (int what = -1; what <= 6; what++) {
            Checks.due("told(" + what + ") ahead of a RUN", x.told(what), STATE);
        }
        Checks.due("run", x.run(0), 0);
        Checks.due("told", Checks.toldAll(x), "7 0 0 0 1 0");
        Checks.due("told once more", Checks.toldAll(x), "7 0 0 0 1 0");
    }

    private static void toldBad() {
        Checks.sentence("told: what = 0 .. 5; BAD");
        for (String text : new String[] {"m = 7;", "m = ? 1;", "m = #1(2);"}) {
            ClosureClasses x = Checks.program(text);
            x.run(0);
            for (int what : new int[] {6, 7, 100, Integer.MAX_VALUE, -1, -2, Integer.MIN_VALUE}) {
                Checks.due("told(" + what + ") of " + text, x.told(what), BAD);
            }
            Checks.due("told(0) of " + text, x.told(0) == BAD ? 1 : 0, 0);
            Checks.due("told(5) of " + text, x.told(5) == BAD ? 1 : 0, 0);
        }
    }

    private static void toldOfEachResult() {
        Checks.sentence("what = 0 the INT, or the constructor's k, or of a function how many arguments it still takes (0 of a fault) .. 5 how many parts the constructor has (0 otherwise)");
        Checks.dueRun("m = - 0 1001;", 9, "0: -1001 1 0 0 2 0");
        Checks.dueRun("m = - - 0 2147483647 1;", 9, "0: -2147483648 2 0 0 3 0");
        Checks.dueRun("m = 2147483647;", 9, "0: 2147483647 0 0 0 1 0");
        Checks.dueRun("m = #999;", 9, "2: 999 0 0 0 1 0");
        for (int parts = 1; parts <= 6; parts++) {
            Checks.dueRun("m = #0(9" + Checks.times(",9", parts - 1) + ");", 9, "2: 0 0 1 0 1 " + parts);
        }
        Checks.dueRun("m = \\a b c d e f. a;", 9, "1: 6 0 1 0 1 0");
        Checks.dueRun("m = ! #1(2,3) \\a. a;", 9, "1: 1 1 2 0 2 0");
        Checks.dueRun("m = ! #1(2,3) ? 55;", 9, "155: 0 1 1 0 2 0");
        Checks.dueRun("m = ! #1(2,3) 5;", 9, "0: 5 1 1 0 2 0");
        Checks.dueRun("m = ! #1(2,3) / 5 0;", 9, "-1: 0 2 1 0 2 0");
    }

    private static void partState() {
        Checks.sentence("part: STATE: there is no constructor, or no such part");
        int[] numbers = {0, 1, 5, 6, -1, Integer.MIN_VALUE, Integer.MAX_VALUE};
        for (String text : new String[] {"m = 7;", "m = \\x. x;", "m = #1;", "m = ? 1;", "m = / 1 0;", "m = < 1 2;",
            "k a b = a; m = (k 1);", "m = ! #1(2) 3;", "m = ! #1(2) ? 3;", "n = #1(2);"}) {
            ClosureClasses x = Checks.program(text);
            Checks.due("ahead of a RUN of " + text, x.part(0), STATE);
            x.run(9);
            String told = Checks.toldAll(x);
            for (int i : numbers) {
                Checks.due("part(" + i + ") of " + text, x.part(i), STATE);
            }
            Checks.due("told after STATE", Checks.toldAll(x), told);
        }
        for (int parts = 1; parts <= 6; parts++) {
            ClosureClasses x = Checks.program("m = #1(10" + Checks.times(",10", parts - 1) + ");");
            Checks.due("run", x.run(0), 2);
            for (int i : new int[] {-1, parts, parts + 1, Integer.MIN_VALUE, Integer.MAX_VALUE}) {
                Checks.due("part(" + i + ") of " + parts, x.part(i), STATE);
            }
            Checks.due("told after STATE", Checks.toldAll(x), "1 0 1 0 1 " + parts);
            Checks.due("the last part", x.part(parts - 1), 0);
            Checks.due("told of it", x.told(0), 10);
            Checks.due("run", x.run(0), 2);
            Checks.due("the first part", x.part(0), 0);
        }
        ClosureClasses y = Checks.program("m = #1(20,21,22,23,24,25);");
        for (int i = 0; i < 6; i++) {
            Checks.due("run", y.run(0), 2);
            Checks.due("part " + i, y.part(i), 0);
            Checks.due("told of it", y.told(0), 20 + i);
        }
    }

    private static void partLimit() {
        Checks.sentence("its value taken with what is left of the LIMIT");
        // one step for the run, three for the part
        String text = "f n = #1(+ n + n + n n); m = (f 2);";
        for (int limit = 1; limit <= 5; limit++) {
            ClosureClasses x = Checks.program(text);
            Checks.due("run(" + limit + ")", x.run(limit), 2);
            Checks.due("steps", x.told(1), 1);
            Checks.due("part(0)", x.part(0), limit < 4 ? -5 : 0);
            Checks.due("steps", x.told(1), Math.min(limit, 4));
            Checks.due("value", x.told(0), limit < 4 ? 0 : 8);
            Checks.due("no constructor any more", x.part(0), STATE);
            // the next RUN has its own LIMIT
            Checks.due("run(1)", x.run(1), 2);
            Checks.due("steps", x.told(1), 1);
            Checks.due("part(0)", x.part(0), -5);
        }
        // a part that takes no steps needs none to be left
        ClosureClasses y = Checks.program("f n = #1(n, 5, #2(? 1), \\x. x); m = (f 2);");
        for (int i = 0; i < 4; i++) {
            Checks.due("run(1)", y.run(1), 2);
            Checks.due("part(" + i + ")", y.part(i), i < 2 ? 0 : 4 - i);
        }
        // a part that never ends has all that is left of 20000
        ClosureClasses z = Checks.program("f x = ! (g x) (f x); g x = 1; h x = #1((f x)); m = (h 1);");
        Checks.due("run(20000)", z.run(20000), 2);
        Checks.due("part(0)", z.part(0), -5);
        Checks.due("steps", z.told(1), 20000);
    }

    private static void partObjects() {
        Checks.sentence("part: as run(): OBJECTS of the latest RUN, 3000 at most");
        String text = "f n = @ = n 0 { 1 : #1(\\x. x, #2(3), ? 1); _ : (f - n 1); }; m = (f %d);";
        ClosureClasses x = Checks.program(String.format(text, 2995));
        Checks.due("run", x.run(20000), 2);
        Checks.due("objects", x.told(2), 2999);
        Checks.due("part(1) is the last one", x.part(1), 2);
        Checks.due("objects", x.told(2), 3000);
        ClosureClasses y = Checks.program(String.format(text, 2996));
        Checks.due("run", y.run(20000), 2);
        Checks.due("objects", y.told(2), 3000);
        Checks.due("part(0) makes none", y.part(0), 1);
        Checks.due("run", y.run(20000), 2);
        Checks.due("part(1) would make one more", y.part(1), -4);
        Checks.due("objects", y.told(2), 3000);
        // a definition is made once for the run and its parts
        ClosureClasses z = Checks.program("d = #1(d); m = #1(d, e); e = d;");
        Checks.due("run", z.run(0), 2);
        Checks.due("told", Checks.toldAll(z), "1 0 3 0 1 2");
        Checks.due("part(1)", z.part(1), 2);
        Checks.due("told", Checks.toldAll(z), "1 0 4 2 2 1");
        Checks.due("part(0)", z.part(0), 2);
        Checks.due("told", Checks.toldAll(z), "1 0 4 2 2 1");
    }

    private static void partDepth() {
        Checks.sentence("as one at DEPTH 1");
        String sums = Checks.times("+ 1 ", 39);
        // the part's TERM at 1, a's at 41, b's at 81, c's at 121, its last at 121 and the sums
        String text = "m = #1(" + Checks.times("+ 1 ", 38) + "a); a = " + sums + "b; b = " + sums + "c; c = %s 1;";
        ClosureClasses x = Checks.program(String.format(text, Checks.times("+ 1 ", 30)));
        Checks.due("run", x.run(999), 2);
        Checks.due("depth of the run", x.told(4), 1);
        Checks.due("part(0)", x.part(0), 0);
        Checks.due("told", Checks.toldAll(x), "147 146 5 4 150 0");
        ClosureClasses y = Checks.program(String.format(text, Checks.times("+ 1 ", 31)));
        Checks.due("run", y.run(999), 2);
        Checks.due("part(0), too deep", y.part(0), -7);
        Checks.due("told", Checks.toldAll(y), "0 0 5 0 150 0");
        // the greatest one of the run and its parts is told
        ClosureClasses z = Checks.program("m = ! + 1 + 1 + 1 1 #1(+ 1 1);");
        Checks.due("run", z.run(9), 2);
        Checks.due("depth of the run", z.told(4), 5);
        Checks.due("part(0)", z.part(0), 0);
        Checks.due("depth", z.told(4), 5);
        ClosureClasses w = Checks.program("m = #1(+ 1 1, 7);");
        Checks.due("run", w.run(9), 2);
        Checks.due("depth of the run", w.told(4), 1);
        Checks.due("part(0)", w.part(0), 0);
        Checks.due("depth", w.told(4), 2);
        Checks.due("run", w.run(9), 2);
        Checks.due("part(1)", w.part(1), 0);
        Checks.due("depth", w.told(4), 1);
    }

    private static void partIsTheResult() {
        Checks.sentence("as run(); it is the latest one's result then");
        ClosureClasses x = Checks.program("m = #1(#2(#3(4, 5), 6), ? 7);");
        Checks.due("run", x.run(0), 2);
        Checks.due("told", Checks.toldAll(x), "1 0 3 0 1 2");
        Checks.due("part(0)", x.part(0), 2);
        Checks.due("told", Checks.toldAll(x), "2 0 5 1 1 2");
        Checks.due("part(0) of that", x.part(0), 2);
        Checks.due("told", Checks.toldAll(x), "3 0 6 2 1 2");
        Checks.due("part(1) of that", x.part(1), 0);
        Checks.due("told", Checks.toldAll(x), "5 0 6 2 1 0");
        Checks.due("no part of that", x.part(0), STATE);
        Checks.due("told", Checks.toldAll(x), "5 0 6 2 1 0");
        Checks.due("run", x.run(0), 2);
        Checks.due("part(1)", x.part(1), 107);
        Checks.due("told", Checks.toldAll(x), "0 0 3 0 1 0");
        Checks.due("no part of a fault", x.part(0), STATE);
    }

    private static void partsAreSetOnce() {
        Checks.sentence("if it is SET, that; else it is SET by the value of its TERM (fault -3 if that is under way)");
        ClosureClasses x = Checks.program("m = let x = #1(x, y) in x; y = #2(m);");
        Checks.due("run", x.run(0), 2);
        Checks.due("told", Checks.toldAll(x), "1 0 3 1 2 2");
        Checks.due("part(0), which is SET", x.part(0), 2);
        Checks.due("told", Checks.toldAll(x), "1 0 3 1 2 2");
        Checks.due("part(1), which is not", x.part(1), 2);
        Checks.due("told", Checks.toldAll(x), "2 0 5 2 2 1");
        Checks.due("m, which was no DELAYED one", x.part(0), 2);
        Checks.due("told", Checks.toldAll(x), "1 0 7 4 2 2");
        ClosureClasses y = Checks.program("m = #1(let x = + 1 x in x, y); y = ! 1 y;");
        Checks.due("run", y.run(9), 2);
        Checks.due("a loop in a part", y.part(0), -3);
        Checks.due("run", y.run(9), 2);
        Checks.due("a part that wants itself", y.part(1), -3);
        Checks.due("told", Checks.toldAll(y), "0 1 3 0 2 0");
    }

    private static void clear() {
        Checks.sentence("clear: No PROGRAM, an empty tape, no RUN");
        ClosureClasses x = Checks.program("m = #1(2, 3);");
        Checks.due("run", x.run(9), 2);
        Checks.feedText(x, "m = 1;");
        x.clear();
        dueNoProgram("cleared", x);
        Checks.due("the tape is empty", x.read(1), BAD);
        Checks.due("the tape is empty", x.read(0), -1);
        feedBlanks(x);
        x.clear();
        Checks.due("feed", feedBlanks(x), 20);
        x.clear();
        x.clear();
        Checks.due("read of another one", Checks.readText(x, "m = #5(6);"), 1);
        Checks.due("told ahead of its RUN", x.told(0), STATE);
        Checks.due("part ahead of its RUN", x.part(0), STATE);
        Checks.due("run", x.run(9), 2);
        Checks.due("told", Checks.toldAll(x), "5 0 1 0 1 1");
        // a full tape has room again
        ClosureClasses y = new ClosureClasses();
        for (int i = 0; i < 200; i++) {
            feedBlanks(y);
        }
        Checks.due("feed", feedBlanks(y), FULL);
        y.clear();
        Checks.due("feed", feedBlanks(y), 20);
        Checks.due("read(40) of 20", y.read(40), BAD);
        // a WRONG text behind it has no PROGRAM before
        ClosureClasses z = Checks.program("m = 1;");
        z.clear();
        Checks.due("read", Checks.readText(z, "m = ;"), -5);
        dueNoProgram("cleared, then WRONG", z);
        new ClosureClasses().clear();
    }
}
