/**
 * The edges of runs, sentence by sentence of the document: 3000 objects, depth 150, the limit,
 * arithmetic at its ends, and each fault beside what is no fault yet. What is due behind a colon
 * is told(0) to told(5).
 */
public final class EdgesOfRunsTest {
    private static final int NO_ROOM = -4, NO_STEPS = -5, TOO_DEEP = -7;

    public static void main(String[] args) {
        mainDefinition();
        functionsStillTake();
        objectsOfEachKind();
        whatMakesNoObject();
        definitionOnceARun();
        objectOrStep();
        depthOfEachTerm();
        depthOfWhatIsSet();
        depthAheadOfAllElse();
        loopAskedBeforeDepth();
        deepOperandsAreMade();
        depthAtOne();
        stepOfEachKind();
        stepAheadOfFaults();
        wholeLimit();
        arithmeticWraps();
        divisionByZero();
        comparisons();
        wrongKinds();
        bangTakesAny();
        loops();
        noAlternative();
        ownFaults();
        faultsEndTheRun();
        leftOver();
        localsStay();
        Checks.finish();
    }

    private static void mainDefinition() {
        Checks.sentence("the TERM of m, a definition without parameters (STATE if there is none such)");
        for (String text : new String[] {"n = 1;", "mm = 1;", "m x = 1;", "m a b c d e f = 1;", "f m = m;",
            "a = let m = 1 in m;"}) {
            ClosureClasses x = Checks.program(text);
            Checks.due("run of " + text, x.run(9), ClosureClasses.STATE);
            Checks.due("told of no run", x.told(0), ClosureClasses.STATE);
        }
        Checks.dueRun("m = 1;", 9, "0: 1 0 0 0 1 0");
        Checks.dueRun("a = 5; mm = 6; m = 7; am = 8;", 9, "0: 7 0 0 0 1 0");
        Checks.dueRun("f m = m; m = (f 3);", 9, "0: 3 1 0 0 2 0");
    }

    private static void functionsStillTake() {
        Checks.sentence("functions (with arguments that are fewer than parameters)");
        String f = "f a b c d e g = a; m = ";
        for (int got = 1; got <= 5; got++) {
            Checks.dueRun(f + "(f" + Checks.times(" 1", got) + ");", 9, "1: " + (6 - got) + " 1 1 0 2 0");
        }
        Checks.dueRun(f + "(f 7 1 1 1 1 1);", 9, "0: 7 1 0 0 2 0");
        Checks.dueRun(f + "f;", 9, "1: 6 0 0 0 1 0");
        Checks.dueRun("m = \\a. a;", 9, "1: 1 0 1 0 1 0");
        Checks.dueRun("m = (\\a b c d e f. a 1 2 3 4 5);", 9, "1: 1 1 2 0 2 0");
        Checks.dueRun("m = ((((((\\a b c d e f. - f a 1) 2) 3) 4) 5) 6);", 9, "0: 5 7 6 0 7 0");
    }

    /** Uses up so many objects, then does the term; f's own argument is one each time. */
    private static String burn(int objects, String term) {
        return "f n = @ = n 0 { 1 : " + term + "; _ : (f - n 1); }; k a b = a; t a b c = a; d = 5; e = 6;"
            + " m = (f " + objects + ");";
    }

    private static void objectsOfEachKind() {
        Checks.sentence("OBJECTS .. 3000 at most: fault -4 instead of one more");
        // the term, how many objects it makes, the answer of its run
        String[][] terms = {
            {"\\x. x", "1", "1"}, {"(k \\x. x 2)", "1", "1"}, {"(k 5 \\x. x)", "1", "0"}, {"(k 5 ? 1)", "1", "0"},
            {"(k 5 #1)", "1", "0"}, {"(k 5 (k 1 2))", "1", "0"}, {"let x = ? 1 in 7", "1", "0"},
            {"let x = \\y. y in 7", "1", "0"}, {"let x = x in 7", "1", "0"}, {"#1(1)", "1", "2"},
            {"#1(? 1)", "2", "2"}, {"#1(\\x. x, ? 1, 3, n)", "3", "2"}, {"#1(?1,?2,?3,?4,?5,?6)", "7", "2"},
            {"(k 1)", "1", "1"}, {"(k ? 1)", "2", "1"}, {"((t 1) 2)", "2", "1"}, {"((t 1) 2 3)", "1", "0"},
            {"(\\x y. x 1)", "2", "1"}, {"d", "1", "0"}, {"(k 1 d)", "1", "0"}, {"+ d d", "1", "0"},
            {"+ d e", "2", "0"}, {"let x = d in 7", "1", "0"}, {"#1(d)", "2", "2"}, {"#1(d, d, e)", "3", "2"},
            {"let x = m in 7", "1", "0"}};
        for (String[] term : terms) {
            int made = Integer.parseInt(term[1]);
            ClosureClasses x = Checks.program(burn(3000 - made, term[0]));
            Checks.due("run up to 3000, then " + term[0], x.run(20000), Integer.parseInt(term[2]));
            Checks.due("objects of " + term[0], x.told(2), 3000);
            for (int more = 1; more <= made; more++) {
                ClosureClasses y = Checks.program(burn(3000 - made + more, term[0]));
                Checks.due("run beyond 3000, then " + term[0], y.run(20000), NO_ROOM);
                Checks.due("told(0)", y.told(0), 0);
                Checks.due("objects", y.told(2), 3000);
                Checks.due("parts", y.told(5), 0);
            }
        }
    }

    private static void whatMakesNoObject() {
        Checks.sentence("OBJECTS are made for each ..: for nothing else");
        String[] terms = {"7", "k", "(k 1 2)", "(k n n)", "(k k t)", "let x = n in x", "let x = 1 in x", "let x = k in 7",
            "+ 1 2", "! #1 7", "@ #1 { 1 : 7; }", "@ < 1 2 { 1 : 7; }"};
        for (String term : terms) {
            ClosureClasses x = Checks.program(burn(3000, term));
            int answer = term.equals("k") || term.equals("(k k t)") ? 1 : 0;
            Checks.due("run up to 3000, then " + term, x.run(20000), answer);
            Checks.due("objects", x.told(2), 3000);
        }
        Checks.dueRun("m = #1;", 9, "2: 1 0 0 0 1 0");
        Checks.dueRun("m = < 1 2;", 9, "2: 1 1 0 0 2 0");
        Checks.dueRun("k a b = a; m = @ #1 { 1 : (k 1 k); };", 9, "0: 1 2 0 0 2 0");
    }

    private static void definitionOnceARun() {
        Checks.sentence("once a RUN, a definition without parameters when it is first told as an OPERAND or 11");
        Checks.dueRun("d = 5; m = 1;", 9, "0: 1 0 0 0 1 0");
        Checks.dueRun("d = 5; m = d;", 9, "0: 5 0 1 1 2 0");
        Checks.dueRun("d = 5; m = + d + d d;", 9, "0: 15 2 1 1 3 0");
        Checks.dueRun("d = 5; k a b = a; m = (k 1 d);", 9, "0: 1 1 1 0 2 0");
        Checks.dueRun("d = 5; k a b = a; m = (k d d);", 9, "0: 5 1 1 1 2 0");
        Checks.dueRun("m = #1(m, m);", 9, "2: 1 0 2 0 1 2");
        ClosureClasses x = Checks.program("d = 5; m = + d d;");
        for (int i = 0; i < 3; i++) {
            Checks.due("run", x.run(9), 0);
            Checks.due("told of each run", Checks.toldAll(x), "10 1 1 1 3 0");
        }
        // the first of 40 and the last
        StringBuilder forty = new StringBuilder("d = 5; m = - + d d e;");
        for (int i = 0; i < 37; i++) {
            forty.append((char) ('a' + i % 26)).append((char) ('a' + i / 26)).append("=1;");
        }
        ClosureClasses y = Checks.program(forty + "e = + 3 4;");
        for (int i = 0; i < 3; i++) {
            Checks.due("run", y.run(9), 0);
            Checks.due("told of each run", Checks.toldAll(y), "3 3 2 2 4 0");
        }
    }

    private static void objectOrStep() {
        Checks.sentence("STEPS: .. ahead of what it does: -5 ahead of -4");
        // (f 3000) is 1 + 3000 * 4 + 2 steps, the call one more
        ClosureClasses x = Checks.program(burn(3000, "(k 1)"));
        Checks.due("no step for the call", x.run(12003), NO_STEPS);
        Checks.due("one for it", x.run(12004), NO_ROOM);
        Checks.due("steps", x.told(1), 12004);
        Checks.sentence("the function's value must be a function (else fault -2 ..); then all OPERANDS are made");
        ClosureClasses y = Checks.program(burn(3000, "(5 ? 1)"));
        Checks.due("no function", y.run(20000), -2);
        Checks.due("a function, and no room", Checks.program(burn(3000, "(k ? 1)")).run(20000), NO_ROOM);
    }

    /**
     * The term at this depth, 121 to 150, the first of a sum. The three definitions on the way
     * to it are three objects.
     */
    private static String deep(int depth, String term) {
        String sums = Checks.times("+ 1 ", 39);
        return "m = " + sums + "a; a = " + sums + "b; b = " + sums + "c; c = " + Checks.times("+ 1 ", depth - 122)
            + "+ " + term + " 1; d = 7; e = + 1 1; i x = x; h x = ! 1 x; j x = ! 1 i; p x = \\y. ! 1 y; q x = \\y. \\z. y;";
    }

    private static void dueDepth(String term, int more, int answer) {
        ClosureClasses x = Checks.program(deep(150 - more, term));
        Checks.due("run of " + term + " at " + (150 - more), x.run(20000), answer);
        Checks.due("the greatest depth of that", x.told(4), 150);
        ClosureClasses y = Checks.program(deep(150 - more - 1, term));
        Checks.due("run of " + term + " at " + (149 - more), y.run(20000), answer);
        Checks.due("the greatest depth of that", y.told(4), 149);
        ClosureClasses z = Checks.program(deep(150 - more + 1, term));
        Checks.due("run of " + term + " at " + (151 - more), z.run(20000), TOO_DEEP);
        Checks.due("the greatest depth of that", z.told(4), 150);
        Checks.due("told(0) of that", z.told(0), 0);
    }

    private static void depthOfEachTerm() {
        Checks.sentence("DEPTH: a TERM's value that is wanted within another one is one deeper; above 150: fault -7");
        dueDepth("7", 0, 0);
        dueDepth("\\x. x", 0, -2);
        dueDepth("#1", 0, -2);
        dueDepth("#1(? 1)", 0, -2);
        dueDepth("i", 0, -2);
        dueDepth("? 9", 0, 109);
        dueDepth("+ 1 1", 1, 0);
        dueDepth("+ 1 + 1 1", 2, 0);
        dueDepth("+ + 1 1 1", 2, 0);
        dueDepth("! 1 7", 1, 0);
        dueDepth("! + 1 1 7", 2, 0);
        dueDepth("@ #1 { _ : 7; }", 1, 0);
        dueDepth("@ < 1 2 { _ : 7; }", 2, 0);
        dueDepth("(i 7)", 1, 0);
        dueDepth("(! 1 i 7)", 2, 0);
        dueDepth("(\\x. x 7)", 1, 0);
        dueDepth("d", 1, 0);
        dueDepth("e", 2, 0);
        dueDepth("let x = + 1 1 in x", 2, 0);
        dueDepth("let x = e in x", 2, 0);
        dueDepth("(i + 1 1)", 2, 0);
        dueDepth("(i (i 7))", 2, 0);
        Checks.sentence("DEPTH: .. 12, 14, 16's and !'s last are not");
        dueDepth("let x = ? 1 in 7", 0, 0);
        dueDepth("let x = 1 in + x x", 1, 0);
        dueDepth("! 1 + 1 1", 1, 0);
        dueDepth("! 1 ! 1 ! 1 7", 1, 0);
        dueDepth("@ #1 { _ : + 1 1; }", 1, 0);
        dueDepth("@ #1 { 1 : @ #2 { 2 : 7; }; }", 1, 0);
        dueDepth("(h 7)", 1, 0);
        dueDepth("(\\x. (\\y. (\\z. z 7) 7) 7)", 1, 0);
        Checks.sentence("where some are left over: that function's TERM is one deeper (the last one's is done in place of the 12)");
        dueDepth("(i i 7)", 1, 0);
        dueDepth("(i i i i i i 7)", 1, 0);
        dueDepth("(j 1 7)", 2, 0);
        dueDepth("(i j 1 7)", 2, 0);
        dueDepth("(i h 7)", 1, 0);
        dueDepth("(p 1 7)", 1, 0);
        dueDepth("(q 1 7 2)", 1, 0);
    }

    private static void depthOfWhatIsSet() {
        Checks.sentence("of a DELAYED one, if it is SET, that: no TERM, nothing deeper");
        // the call of a is at 38, that of b at 76, that of c at 114, y at 114 and the sums ahead of it
        String text = "m = let x = + 1 1 in + %s " + Checks.times("+ 1 ", 36) + "(a x); a y = " + Checks.times("+ 1 ", 38)
            + "(b y); b y = " + Checks.times("+ 1 ", 38) + "(c y); c y = %s y;";
        ClosureClasses set = Checks.program(String.format(text, "x", Checks.times("+ 1 ", 36)));
        Checks.due("it is set, told at 150", set.run(999), 0);
        Checks.due("told", Checks.toldAll(set), "152 153 1 1 150 0");
        ClosureClasses not = Checks.program(String.format(text, "1", Checks.times("+ 1 ", 36)));
        Checks.due("it is not", not.run(999), TOO_DEEP);
        Checks.due("told", Checks.toldAll(not), "0 3 1 0 150 0");
        ClosureClasses inTime = Checks.program(String.format(text, "1", Checks.times("+ 1 ", 34)));
        Checks.due("it is not, told at 148", inTime.run(999), 0);
        Checks.due("depth", inTime.told(4), 150);
    }

    private static void depthAheadOfAllElse() {
        Checks.sentence("above 150: fault -7, ahead of all else in it");
        Checks.due("a fault at 150", Checks.program(deep(150, "? 9")).run(999), 109);
        Checks.due("a fault at 151", Checks.program(deep(151, "? 9")).run(999), TOO_DEEP);
        // at 151 nothing is made
        for (String term : new String[] {"\\x. x", "#1(? 1)", "d", "let x = ? 1 in 7", "(i ? 1)"}) {
            ClosureClasses x = Checks.program(deep(151, term));
            Checks.due("run of " + term, x.run(999), TOO_DEEP);
            Checks.due("told", Checks.toldAll(x), "0 0 3 0 150 0");
        }
        // a definition's object is made where it is told, its TERM is too deep
        ClosureClasses y = Checks.program(deep(150, "d"));
        Checks.due("run of d at 150", y.run(999), TOO_DEEP);
        Checks.due("told", Checks.toldAll(y), "0 0 4 0 150 0");
        // a step comes behind both terms of a sum, so none is used up
        ClosureClasses z = Checks.program(deep(150, "+ 1 1"));
        Checks.due("no steps", z.run(0), TOO_DEEP);
    }

    private static void loopAskedBeforeDepth() {
        Checks.sentence("-3 is asked before");
        ClosureClasses x = Checks.program(deep(150, "c"));
        Checks.due("what is under way, told at 150", x.run(999), -3);
        Checks.due("told", Checks.toldAll(x), "0 0 3 0 150 0");
        Checks.due("told at 151", Checks.program(deep(151, "c")).run(999), TOO_DEEP);
        Checks.due("a new one at 150", Checks.program(deep(150, "d")).run(999), TOO_DEEP);
        // m itself was not told: it is made, and its TERM is deeper
        Checks.due("m at 150", Checks.program(deep(150, "m")).run(999), TOO_DEEP);
        Checks.due("an own let at 149", Checks.program(deep(149, "let x = x in x")).run(999), -3);
        Checks.due("an own let at 150", Checks.program(deep(150, "let x = x in x")).run(999), TOO_DEEP);
    }

    private static void deepOperandsAreMade() {
        Checks.sentence("then all OPERANDS are made; .. where some are left over: that function's TERM is one deeper");
        // at 149 the function's value is at 150, and so is its TERM; at 150 the function is too deep
        ClosureClasses x = Checks.program(deep(149, "(i i ? 1)"));
        Checks.due("run", x.run(999), 101);
        Checks.due("objects", x.told(2), 4);
        Checks.due("too deep", Checks.program(deep(150, "(i i ? 1)")).run(999), TOO_DEEP);
        // the value of j is at 150 with what is left over waiting, its ! wants 151
        ClosureClasses y = Checks.program(deep(149, "(j ? 1 ? 2)"));
        Checks.due("run", y.run(999), TOO_DEEP);
        Checks.due("told", Checks.toldAll(y), "0 1 5 0 150 0");
    }

    private static void depthAtOne() {
        Checks.sentence("The TERM of m is at 1");
        Checks.dueRun("m = 7;", 0, "0: 7 0 0 0 1 0");
        Checks.dueRun("m = let x = ? 1 in let y = 2 in y;", 0, "0: 2 0 1 0 1 0");
        Checks.dueRun("m = + 1 2;", 1, "0: 3 1 0 0 2 0");
        Checks.dueRun("d = 7; m = d;", 1, "0: 7 0 1 1 2 0");
    }

    private static void dueLimit(String text, int steps, int answer) {
        ClosureClasses x = Checks.program(text);
        for (int limit = 0; limit < steps; limit++) {
            Checks.due("run(" + limit + ") of " + text, x.run(limit), NO_STEPS);
            Checks.due("steps of that", x.told(1), limit);
            Checks.due("told(0) of that", x.told(0), 0);
        }
        for (int limit : new int[] {steps, steps + 1, 20000}) {
            Checks.due("run(" + limit + ") of " + text, x.run(limit), answer);
            Checks.due("steps of that", x.told(1), steps);
        }
    }

    private static void stepOfEachKind() {
        Checks.sentence("STEPS: each time a function gets arguments, 16 with its value, 17 with both (! with the first one) is one; with the LIMIT used up one more is fault -5");
        dueLimit("m = 7;", 0, 0);
        dueLimit("m = \\x. x;", 0, 1);
        dueLimit("m = #1(2, ? 3);", 0, 2);
        dueLimit("d = 1; m = let x = d in x;", 0, 0);
        dueLimit("i x = x; m = (i 7);", 1, 0);
        dueLimit("k x y = x; m = (k 7);", 1, 1);
        dueLimit("k x y = x; m = (k 7 8);", 1, 0);
        dueLimit("k x y = x; m = ((k 7) 8);", 2, 0);
        dueLimit("i x = x; m = (i i 7);", 2, 0);
        dueLimit("i x = x; m = (i i i i i i 7);", 6, 0);
        dueLimit("i x = x; k x y = x; m = (i k 7);", 2, 1);
        dueLimit("m = @ #1 { 1 : 7; };", 1, 0);
        dueLimit("m = @ @ #1 { _ : #2; } { 2 : 7; };", 2, 0);
        for (char sign : "+-*/%!".toCharArray()) {
            dueLimit("m = " + sign + " 1 2;", 1, 0);
            dueLimit("m = " + sign + " " + sign + " 9 8 " + sign + " 7 6;", 3, 0);
        }
        dueLimit("m = < 1 2;", 1, 2);
        dueLimit("m = = 1 2;", 1, 2);
        // what is SET takes its steps once
        dueLimit("m = let x = + 1 2 in + x x;", 2, 0);
    }

    private static void stepAheadOfFaults() {
        Checks.sentence("is one, ahead of what it does (and of its faults -2)");
        dueLimit("m = (1 2);", 1, -2);
        dueLimit("i x = x; m = (i 1 2);", 2, -2);
        dueLimit("m = @ 1 { _ : 1; };", 1, -2);
        dueLimit("m = @ #1 { 2 : 1; };", 1, -6);
        dueLimit("m = + #1 1;", 1, -2);
        dueLimit("m = / 1 0;", 1, -1);
        dueLimit("m = % 1 0;", 1, -1);
        dueLimit("m = ! 1 ? 5;", 1, 105);
        dueLimit("i x = x; m = (i ? 5);", 1, 105);
        dueLimit("m = @ #1 { _ : ? 5; };", 1, 105);
        // what is wanted ahead of the step has its faults ahead of it
        dueLimit("m = (? 5 1);", 0, 105);
        dueLimit("m = @ ? 5 { _ : 1; };", 0, 105);
        dueLimit("m = + ? 5 ? 6;", 0, 105);
        dueLimit("m = + #1 ? 6;", 0, 106);
        dueLimit("m = ! ? 5 1;", 0, 105);
    }

    /** Terms whose value is 1, by how many steps they take, joined so that they take exactly these. */
    private static String exactly(int steps) {
        StringBuilder text = new StringBuilder("da x = 1;");
        int[] cost = new int[14];
        for (int k = 1; k < cost.length; k++) {
            // two calls of the one before, and a !
            cost[k] = 2 * (1 + cost[k - 1]) + 1;
            String before = "(d" + (char) ('a' + k - 1) + " 1)";
            text.append("d").append((char) ('a' + k)).append(" x = ! ").append(before).append(" ").append(before).append(";");
        }
        text.append("m = ");
        int left = steps;
        for (int k = cost.length - 1; k >= 0; k--) {
            if (left >= cost[k] + 2) {
                text.append("! (d").append((char) ('a' + k)).append(" 1) ");
                left -= cost[k] + 2;
            }
        }
        return text + Checks.times("! 1 ", left) + "1;";
    }

    private static void wholeLimit() {
        Checks.sentence("a LIMIT (0 .. 20000): 20000 steps can be taken");
        for (int steps : new int[] {19999, 20000}) {
            ClosureClasses x = Checks.program(exactly(steps));
            Checks.due("run(" + steps + ")", x.run(steps), 0);
            Checks.due("steps", x.told(1), steps);
            Checks.due("run(" + (steps - 1) + ")", x.run(steps - 1), NO_STEPS);
            Checks.due("steps", x.told(1), steps - 1);
        }
        ClosureClasses y = Checks.program(exactly(20001));
        Checks.due("20001 steps", y.run(20000), NO_STEPS);
        Checks.due("steps", y.told(1), 20000);
        Checks.dueRun("f x = (f x); m = (f 1);", 20000, "-5: 0 20000 0 0 2 0");
    }

    /** The least INT, which no NUMBER tells. */
    private static final String LEAST = "- - 0 2147483647 1";

    private static void dueNumber(String term, int number) {
        ClosureClasses x = Checks.program("m = " + term + ";");
        Checks.due("run of " + term, x.run(99), 0);
        Checks.due("value of " + term, x.told(0), number);
    }

    private static void arithmeticWraps() {
        Checks.sentence("Arithmetic wraps");
        dueNumber("+ 2147483646 1", 2147483647);
        dueNumber("+ 2147483647 1", -2147483648);
        dueNumber("+ 2147483647 2147483647", -2);
        dueNumber("+ " + LEAST + " " + LEAST, 0);
        dueNumber("+ " + LEAST + " - 0 1", 2147483647);
        dueNumber(LEAST, -2147483648);
        dueNumber("- " + LEAST + " 1", 2147483647);
        dueNumber("- 0 " + LEAST, -2147483648);
        dueNumber("- 2147483647 - 0 1", -2147483648);
        dueNumber("- - 0 2147483647 0", -2147483647);
        dueNumber("* 46340 46340", 2147395600);
        dueNumber("* 46341 46341", -2147479015);
        dueNumber("* 65535 65537", -1);
        dueNumber("* 65536 65536", 0);
        dueNumber("* 65536 32768", -2147483648);
        dueNumber("* 2147483647 2147483647", 1);
        dueNumber("* " + LEAST + " - 0 1", -2147483648);
        dueNumber("* " + LEAST + " " + LEAST, 0);
        dueNumber("/ " + LEAST + " - 0 1", -2147483648);
        dueNumber("/ " + LEAST + " 1", -2147483648);
        dueNumber("/ 2147483647 - 0 1", -2147483647);
        dueNumber("% " + LEAST + " - 0 1", 0);
        dueNumber("% " + LEAST + " 10", -8);
        dueNumber("/ " + LEAST + " 10", -214748364);
        dueNumber("/ 7 2", 3);
        dueNumber("% 7 2", 1);
        dueNumber("/ 7 - 0 2", -3);
        dueNumber("% 7 - 0 2", 1);
        dueNumber("/ - 0 7 2", -3);
        dueNumber("% - 0 7 2", -1);
        dueNumber("/ - 0 7 - 0 2", 3);
        dueNumber("% - 0 7 - 0 2", -1);
        dueNumber("/ 1 2", 0);
        dueNumber("% 2 2", 0);
    }

    private static void divisionByZero() {
        Checks.sentence("/ and % by 0: -1");
        for (String sign : new String[] {"/", "%"}) {
            for (String first : new String[] {"0", "1", "2147483647", LEAST, "- 0 1"}) {
                Checks.due(sign + first + " by 0", Checks.program("m = " + sign + " " + first + " 0;").run(9), -1);
                Checks.due(sign + first + " by 1 - 1", Checks.program("m = " + sign + first + " - 1 1;").run(9), -1);
                Checks.due(sign + first + " by 1", Checks.program("m = " + sign + first + " 1;").run(9), 0);
                Checks.due(sign + first + " by -1", Checks.program("m = " + sign + first + " - 0 1;").run(9), 0);
            }
            Checks.dueRun("m = " + sign + " 1 0;", 9, "-1: 0 1 0 0 2 0");
            // no INTS are asked for first
            Checks.dueRun("m = " + sign + " #1 0;", 9, "-2: 0 1 0 0 2 0");
            dueNumber(sign + " 0 5", 0);
        }
        dueNumber("+ 5 0", 5);
        dueNumber("- 5 0", 5);
        dueNumber("* 5 0", 0);
    }

    private static void comparisons() {
        Checks.sentence("< and = give constructors 1 (true), 0 without parts");
        String[][] rows = {{"1", "2", "1", "0"}, {"2", "2", "0", "1"}, {"3", "2", "0", "0"}, {"- 0 1", "0", "1", "0"},
            {"0", "- 0 1", "0", "0"}, {LEAST, "2147483647", "1", "0"}, {"2147483647", LEAST, "0", "0"},
            {LEAST, LEAST, "0", "1"}, {"2147483647", "2147483647", "0", "1"}, {"2147483646", "2147483647", "1", "0"}};
        for (String[] row : rows) {
            for (int i = 0; i < 2; i++) {
                String term = (i == 0 ? "< " : "= ") + row[0] + " " + row[1];
                ClosureClasses x = Checks.program("m = " + term + ";");
                Checks.due("run of " + term, x.run(9), 2);
                Checks.due("k of " + term, x.told(0), Integer.parseInt(row[2 + i]));
                Checks.due("parts of " + term, x.told(5), 0);
                Checks.due("objects of " + term, x.told(2), 0);
                Checks.due("part(0) of " + term, x.part(0), ClosureClasses.STATE);
            }
        }
    }

    private static final String NO_INTS = "k a b = a; m = %s;";
    private static final String[] NOT_INTS = {"#1", "#0", "#1(2)", "\\x. x", "k", "(k 1)"};

    private static void wrongKinds() {
        Checks.sentence("both INTS (else -2)");
        for (char sign : "+-*/%<=".toCharArray()) {
            for (String other : NOT_INTS) {
                Checks.due(sign + " with first " + other, Checks.program(String.format(NO_INTS, sign + " " + other + " 1")).run(9), -2);
                Checks.due(sign + " with second " + other, Checks.program(String.format(NO_INTS, sign + " 1 " + other)).run(9), -2);
                Checks.due(sign + " with both " + other, Checks.program(String.format(NO_INTS, sign + other + " " + other)).run(9), -2);
            }
            int answer = sign == '<' || sign == '=' ? 2 : 0;
            Checks.due(sign + " with ints", Checks.program(String.format(NO_INTS, sign + " 1 1")).run(9), answer);
        }
        Checks.sentence("12: the function's value must be a function (else fault -2)");
        for (String other : new String[] {"0", "7", "#1", "#1(2)", "< 1 2"}) {
            Checks.due("call of " + other, Checks.program("m = (" + other + " 1);").run(9), -2);
        }
        for (String function : new String[] {"\\x. x", "k", "(k 1)", "(k k 1)"}) {
            int answer = Checks.program(String.format(NO_INTS, "(" + function + " 1)")).run(9);
            Checks.due("call of " + function, answer < 0 ? answer : 0, 0);
        }
        Checks.sentence("16: the value must be a constructor (-2)");
        for (String other : new String[] {"0", "7", "\\x. x", "k", "(k 1)"}) {
            Checks.due("choice of " + other, Checks.program(String.format(NO_INTS, "@ " + other + " { _ : 7; }")).run(9), -2);
            Checks.due("choice of " + other, Checks.program(String.format(NO_INTS, "@ " + other + " { 0 : 7; }")).run(9), -2);
        }
        for (String constructor : new String[] {"#0", "#1(2)", "< 1 2", "(k #1 2)"}) {
            Checks.due("choice of " + constructor,
                Checks.program(String.format(NO_INTS, "@ " + constructor + " { _ : 7; }")).run(9), 0);
        }
    }

    private static void bangTakesAny() {
        Checks.sentence("! gives the second one's value, the first being any");
        for (String first : new String[] {"1", "#1", "#1(2)", "\\x. x", "k", "(k 1)"}) {
            Checks.due("! " + first, Checks.program(String.format(NO_INTS, "! " + first + " 7")).run(9), 0);
        }
        Checks.dueRun("m = ! 1 #5(6);", 9, "2: 5 1 1 0 2 1");
        Checks.dueRun("m = ! 1 \\x y. x;", 9, "1: 2 1 1 0 2 0");
        // the first one's value is taken, and no more of it
        Checks.dueRun("m = ! ? 5 7;", 9, "105: 0 0 0 0 2 0");
        Checks.dueRun("m = ! #1(? 5) 7;", 9, "0: 7 1 2 0 2 0");
        Checks.dueRun("m = let x = + 1 2 in ! x 7;", 9, "0: 7 2 1 1 4 0");
        Checks.dueRun("m = let x = + 1 2 in 7;", 9, "0: 7 0 1 0 1 0");
    }

    private static void loops() {
        Checks.sentence("fault -3 if that is under way");
        Checks.dueRun("m = let x = x in x;", 9, "-3: 0 0 1 0 2 0");
        Checks.dueRun("m = let x = x in 7;", 9, "0: 7 0 1 0 1 0");
        Checks.dueRun("m = let x = ! 1 x in x;", 9, "-3: 0 1 1 0 3 0");
        Checks.dueRun("m = let x = + x 1 in x;", 9, "-3: 0 0 1 0 3 0");
        Checks.dueRun("i x = x; m = let x = (i x) in x;", 9, "-3: 0 1 1 0 3 0");
        Checks.dueRun("m = let x = @ x { _ : 1; } in x;", 9, "-3: 0 0 1 0 3 0");
        Checks.dueRun("m = let x = (x 1) in x;", 9, "-3: 0 0 1 0 3 0");
        Checks.dueRun("m = let x = let y = ! 1 x in y in x;", 9, "-3: 0 1 2 0 4 0");
        Checks.dueRun("a = a; m = a;", 9, "-3: 0 0 1 0 2 0");
        Checks.dueRun("a = b; b = c; c = a; m = c;", 9, "-3: 0 0 3 0 4 0");
        Checks.dueRun("m = m;", 9, "-3: 0 0 1 0 2 0");
        // what is told, but not wanted while it is under way, is no loop
        Checks.dueRun("m = let x = #1(x) in x;", 9, "2: 1 0 2 1 2 1");
        Checks.dueRun("m = let x = \\y. x in x;", 9, "1: 1 0 1 0 1 0");
        Checks.dueRun("m = let f = \\n. @ = n 0 { 1 : 7; _ : (f - n 1); } in (f 3);", 99, "0: 7 15 4 3 5 0");
        Checks.dueRun("a = #1(a, b); b = #2(a, b); m = @ a { 1 x y : @ y { 2 z w : w; }; };", 9, "2: 2 2 4 2 3 2");
        // once SET it is under way no more
        Checks.dueRun("m = let x = + 1 1 in + x + x x;", 9, "0: 6 3 1 1 4 0");
    }

    private static void noAlternative() {
        Checks.sentence("a constructor that is told with as many parts, or else _ (-6 without): parts are the LOCALS");
        Checks.dueRun("m = @ #1 { 1 : 7; };", 9, "0: 7 1 0 0 2 0");
        Checks.dueRun("m = @ #1 { 0 : 7; 2 : 7; 999 : 7; };", 9, "-6: 0 1 0 0 2 0");
        Checks.dueRun("m = @ #1 { 0 : 7; 2 : 7; _ : 8; };", 9, "0: 8 1 0 0 2 0");
        Checks.dueRun("m = @ #1 { 1 : 7; _ : 8; };", 9, "0: 7 1 0 0 2 0");
        for (int parts = 0; parts <= 6; parts++) {
            for (int names = 0; names <= 6; names++) {
                String made = "#9" + (parts == 0 ? "" : "(1" + Checks.times(",1", parts - 1) + ")");
                String row = "a b c d e f".substring(0, Math.max(0, 2 * names - 1));
                String text = "m = @ " + made + " { 8 : 6; 9 " + row + " : 7; %s };";
                Checks.due(made + " by " + names, Checks.program(String.format(text, "")).run(9), parts == names ? 0 : -6);
                ClosureClasses x = Checks.program(String.format(text, "_ : 8;"));
                Checks.due(made + " by " + names + " or _", x.run(9), 0);
                Checks.due("value of that", x.told(0), parts == names ? 7 : 8);
            }
        }
        for (int i = 0; i < 6; i++) {
            Checks.dueRun("m = @ #1(5,6,7,8,9,10) { 1 a b c d e f : " + (char) ('a' + i) + "; };", 9, "0: " + (5 + i) + " 1 1 0 2 0");
        }
        // the last of twelve, and the first
        StringBuilder twelve = new StringBuilder("m = @ #%d { ");
        for (int k = 0; k < 12; k++) {
            twelve.append(k).append(" : ").append(100 + k).append("; ");
        }
        for (int k = 0; k < 12; k++) {
            Checks.dueRun(String.format(twelve + "};", k), 9, "0: " + (100 + k) + " 1 0 0 2 0");
        }
        Checks.dueRun(String.format(twelve + "};", 12), 9, "-6: 0 1 0 0 2 0");
        Checks.dueRun("m = @ #255 { 0 : 1; 511 : 2; 255 : 3; };", 9, "0: 3 1 0 0 2 0");
        Checks.dueRun("m = @ #256 { 0 : 1; 1 : 2; 256 : 3; };", 9, "0: 3 1 0 0 2 0");
    }

    private static void ownFaults() {
        Checks.sentence("18: fault k: 100 more than the k of a fault k");
        for (int k = 0; k <= 99; k++) {
            Checks.dueRun("m = ? " + k + ";", 0, (100 + k) + ": 0 0 0 0 1 0");
        }
        Checks.dueRun("m = + 1 ? 7;", 9, "107: 0 0 0 0 2 0");
        Checks.dueRun("m = #1(? 7);", 9, "2: 1 0 2 0 1 1");
    }

    private static void faultsEndTheRun() {
        Checks.sentence("A fault ends the RUN; what is SET stays nowhere: each RUN begins anew");
        ClosureClasses x = Checks.program("d = + 1 2; e = + d 4; m = + e ? 5;");
        for (int i = 0; i < 3; i++) {
            Checks.due("run", x.run(9), 105);
            Checks.due("told", Checks.toldAll(x), "0 2 2 2 6 0");
            Checks.due("run(1)", x.run(1), NO_STEPS);
            Checks.due("told", Checks.toldAll(x), "0 1 2 1 6 0");
            Checks.due("run(0)", x.run(0), NO_STEPS);
            Checks.due("told", Checks.toldAll(x), "0 0 2 0 6 0");
        }
        // what was under way when a run ended is not in the next one
        ClosureClasses y = Checks.program("d = + e 1; e = + 1 2; m = d;");
        Checks.due("run(1)", y.run(1), NO_STEPS);
        Checks.due("run(2)", y.run(2), 0);
        Checks.due("told", Checks.toldAll(y), "4 2 2 2 5 0");
        // nor are its objects
        ClosureClasses z = Checks.program(burn(2000, "#1(? 1)"));
        for (int i = 0; i < 3; i++) {
            Checks.due("run", z.run(20000), 2);
            Checks.due("objects", z.told(2), 2002);
            Checks.due("steps", z.told(1), 8003);
            Checks.due("set", z.told(3), 2000);
        }
    }

    private static void leftOver() {
        Checks.sentence("its parameters, those it got already first, get them in order: with too few it is a function still; with all its TERM is done in place of this; what is left over goes, as arguments, to the value of that");
        String s = "s a b c = - * 100 a - * 10 b c; m = ";
        Checks.dueRun(s + "(s 1 2 3);", 9, "0: 83 5 0 0 4 0");
        Checks.dueRun(s + "((s 1) 2 3);", 9, "0: 83 6 1 0 4 0");
        Checks.dueRun(s + "((s 1 2) 3);", 9, "0: 83 6 1 0 4 0");
        Checks.dueRun(s + "(((s 1) 2) 3);", 9, "0: 83 7 2 0 4 0");
        Checks.dueRun(s + "(s 1 2);", 9, "1: 1 1 1 0 2 0");
        Checks.dueRun(s + "((s 1) 2);", 9, "1: 1 2 2 0 3 0");
        Checks.dueRun(s + "(s 1 2 3 4);", 9, "-2: 0 6 0 0 5 0");
        String n = "n a = \\b c. \\d. - * 1000 a - * 100 b - * 10 c d; m = ";
        Checks.dueRun(n + "(n 1 2 3 4);", 99, "0: 826 9 2 0 5 0");
        Checks.dueRun(n + "(n 1 2 3);", 99, "1: 1 2 2 0 2 0");
        Checks.dueRun(n + "(n 1 2);", 99, "1: 1 2 2 0 2 0");
        Checks.dueRun(n + "((n 1 2) 3 4);", 99, "0: 826 10 3 0 5 0");
        Checks.dueRun(n + "(n 1 2 3 4 5);", 99, "-2: 0 10 2 0 6 0");
        // the same with other objects ahead of the function whose FIELDS are wanted
        Checks.dueRun(n + "let x = ? 1 in let y = \\z. z in ((n 6 2) 3 4);", 99, "0: 5826 10 5 0 5 0");
        Checks.dueRun("w a b = - * 10 a b; m = let x = ? 1 in let p = (w 4) in - (p 1) (p 2);", 99, "0: 1 8 3 1 5 0");
    }

    private static void localsStay() {
        Checks.sentence("14, 16: the LOCAL is there, the TERM done in place of this");
        String i = "i x = x; t a b c = b; m = ";
        Checks.dueRun(i + "@ (i #1(5)) { 1 a : a; };", 99, "0: 5 2 2 1 3 0");
        Checks.dueRun(i + "@ (t 7 #1(5, 6) 8) { 1 a b : - a b; };", 99, "0: -1 3 2 1 3 0");
        Checks.dueRun(i + "let p = 3 in @ (t p #1(5, 6) p) { 1 a b : let q = + a p in @ (t 1 #2(q) 2) { 2 c : - c b; }; };", 99,
            "0: 2 6 5 3 4 0");
        Checks.dueRun(i + "let p = (t 1 2 3) in + let q = + p 1 in * q p let r = 5 in - r p;", 99, "0: 9 5 2 2 7 0");
        Checks.dueRun(i + "(let p = (i 4) in ! p \\x. - p x let r = 1 in r);", 99, "0: 3 4 3 2 5 0");
    }
}
