/**
 * Promises 6 and 7: the answer of a run and, behind the colon, the number of its result, the
 * steps, the objects, how many were set, the greatest depth, and how many parts there are.
 */
public final class RunTest {
    public static void main(String[] args) {
        values();
        arithmetic();
        operatorFaults();
        letsAndSharing();
        calls();
        leftOver();
        choices();
        limits();
        objects();
        depth();
        deepTexts();
        eachRunBeginsAnew();
        Checks.finish();
    }

    private static void values() {
        Checks.dueRun("m = 5;", 0, "0: 5 0 0 0 1 0");
        Checks.dueRun("m = #3;", 0, "2: 3 0 0 0 1 0");
        Checks.dueRun("m = #3(1, m);", 0, "2: 3 0 2 0 1 2");
        Checks.dueRun("m = #0(1, 2, 3, 4, 5, 6);", 0, "2: 0 0 1 0 1 6");
        Checks.dueRun("m = \\a b. a;", 0, "1: 2 0 1 0 1 0");
        Checks.dueRun("k a b = a; m = k;", 0, "1: 2 0 0 0 1 0");
        Checks.dueRun("m = ? 0;", 9, "100: 0 0 0 0 1 0");
        Checks.dueRun("m = ? 99;", 9, "199: 0 0 0 0 1 0");
    }

    private static void arithmetic() {
        Checks.dueRun("m = + 1 2;", 1, "0: 3 1 0 0 2 0");
        Checks.dueRun("m = - 1 2;", 1, "0: -1 1 0 0 2 0");
        Checks.dueRun("m = + 2147483647 1;", 1, "0: -2147483648 1 0 0 2 0");
        Checks.dueRun("m = * 65536 65536;", 1, "0: 0 1 0 0 2 0");
        Checks.dueRun("m = * 65537 65537;", 1, "0: 131073 1 0 0 2 0");
        Checks.dueRun("m = / - 0 7 2;", 9, "0: -3 2 0 0 3 0");
        Checks.dueRun("m = % - 0 7 2;", 9, "0: -1 2 0 0 3 0");
        Checks.dueRun("m = / - - 0 2147483647 1 - 0 1;", 9, "0: -2147483648 4 0 0 4 0");
        Checks.dueRun("m = % - - 0 2147483647 1 - 0 1;", 9, "0: 0 4 0 0 4 0");
        Checks.dueRun("m = < 1 2;", 9, "2: 1 1 0 0 2 0");
        Checks.dueRun("m = < 2 2;", 9, "2: 0 1 0 0 2 0");
        Checks.dueRun("m = < - 0 1 0;", 9, "2: 1 2 0 0 3 0");
        Checks.dueRun("m = = 2 2;", 9, "2: 1 1 0 0 2 0");
        Checks.dueRun("m = = 2 3;", 9, "2: 0 1 0 0 2 0");
        Checks.dueRun("m = ! #1 7;", 1, "0: 7 1 0 0 2 0");
        Checks.dueRun("m = ! \\x. x ! 1 ! 1 5;", 3, "0: 5 3 1 0 2 0");
    }

    private static void operatorFaults() {
        Checks.dueRun("m = / 1 0;", 1, "-1: 0 1 0 0 2 0");
        Checks.dueRun("m = % 1 0;", 1, "-1: 0 1 0 0 2 0");
        Checks.dueRun("m = / #1 0;", 1, "-2: 0 1 0 0 2 0");
        Checks.dueRun("m = / 1 #0;", 1, "-2: 0 1 0 0 2 0");
        Checks.dueRun("m = = #1 #1;", 1, "-2: 0 1 0 0 2 0");
        Checks.dueRun("m = / 1 0;", 0, "-5: 0 0 0 0 2 0");
        Checks.dueRun("m = + #1 ? 8;", 0, "108: 0 0 0 0 2 0");
        Checks.dueRun("m = ! ? 3 7;", 9, "103: 0 0 0 0 2 0");
        Checks.dueRun("m = ! 1 ? 4;", 9, "104: 0 1 0 0 2 0");
        Checks.dueRun("m = ! 1 7;", 0, "-5: 0 0 0 0 2 0");
    }

    private static void letsAndSharing() {
        Checks.dueRun("m = let x = + 1 2 in * x x;", 9, "0: 9 2 1 1 4 0");
        Checks.dueRun("m = let x = 4 in let y = x in y;", 9, "0: 4 0 0 0 1 0");
        Checks.dueRun("m = let x = ? 1 in 5;", 9, "0: 5 0 1 0 1 0");
        Checks.dueRun("m = let x = x in x;", 9, "-3: 0 0 1 0 2 0");
        Checks.dueRun("m = let x = + 1 x in x;", 9, "-3: 0 0 1 0 3 0");
        Checks.dueRun("m = m;", 9, "-3: 0 0 1 0 2 0");
        Checks.dueRun("m = + 1 m;", 9, "-3: 0 0 1 0 4 0");
        Checks.dueRun("a = b; b = a; m = a;", 9, "-3: 0 0 2 0 3 0");
        Checks.dueRun("d x = + x x; m = (d + 1 2);", 9, "0: 6 3 1 1 4 0");
        Checks.dueRun("c = + 1 2; m = + c c;", 9, "0: 6 2 1 1 4 0");
        Checks.dueRun("c = 7; m = + c c;", 9, "0: 14 1 1 1 3 0");
        Checks.dueRun("m = let x = #1(2, x) in @ x { 1 a b : @ b { 1 c d : c; }; };", 9, "0: 2 2 2 1 3 0");
        // b is a, which is delayed: both are one object, set once
        Checks.dueRun("m = let a = + 1 1 in let b = a in + a b;", 9, "0: 4 2 1 1 4 0");
        // the delayed a gives the value of b: both are set, b within a
        Checks.dueRun("m = let b = + 1 1 in let a = ! 0 b in a;", 9, "0: 2 2 2 2 4 0");
    }

    private static void calls() {
        Checks.dueRun("k a b = a; m = (k 1 ? 5);", 9, "0: 1 1 1 0 2 0");
        Checks.dueRun("k a b = a; m = (k 5);", 9, "1: 1 1 1 0 2 0");
        Checks.dueRun("k a b = a; m = (k + 1 2);", 9, "1: 1 1 2 0 2 0");
        Checks.dueRun("k a b c = - a - b c; m = ((k 1) 2 3);", 9, "0: 2 4 1 0 3 0");
        Checks.dueRun("k a b c = - a - b c; m = (((k 1) 2) 3);", 9, "0: 2 5 2 0 4 0");
        Checks.dueRun("k a b c = a; m = ((k 1) 2);", 9, "1: 1 2 2 0 3 0");
        // what it got first is shared by both calls
        Checks.dueRun("k a b = - a b; m = let p = (k 9) in - (p 1) (p 2);", 99, "0: 1 6 2 1 5 0");
        Checks.dueRun("ad a = \\b. \\c. - a - b c; m = (((ad 1) 2) 3);", 99, "0: 2 5 2 0 4 0");
        Checks.dueRun("m = let g = \\x. @ x { 0 : 9; 1 : (g #0); } in (g #1);", 99, "0: 9 4 3 2 3 0");
        Checks.dueRun("m = (3 4);", 9, "-2: 0 1 0 0 2 0");
        Checks.dueRun("m = (3 + 1 2);", 9, "-2: 0 1 0 0 2 0");
        Checks.dueRun("m = (#1 4);", 9, "-2: 0 1 0 0 2 0");
        Checks.dueRun("m = (3 4);", 0, "-5: 0 0 0 0 2 0");
        Checks.dueRun("m = (? 6 4);", 0, "106: 0 0 0 0 2 0");
        Checks.dueRun("s a b c d e f = - a - b - c - d - e f; m = (s 1 2 3 4 5 6);", 9, "0: -3 6 0 0 6 0");
    }

    private static void leftOver() {
        Checks.dueRun("f a = \\b. + a b; m = (f 1 2);", 9, "0: 3 3 1 0 2 0");
        Checks.dueRun("f a = \\b. \\c. - a * b c; m = (f 1 2 3);", 9, "0: -5 5 2 0 3 0");
        Checks.dueRun("f a = a; m = (f 1 2);", 9, "-2: 0 2 0 0 2 0");
        Checks.dueRun("f a = a; m = (f 1 2);", 1, "-5: 0 1 0 0 2 0");
        Checks.dueRun("f a = \\b c. b; m = (f 1 2);", 9, "1: 1 2 2 0 2 0");
        // a function that got fewer arguments still has the fields of the one that it was
        Checks.dueRun("f a = \\b c. - a - b c; m = ((f 9 2) 3);", 9, "0: 10 5 2 0 3 0");
        Checks.dueRun("f a = \\b c d. - a - b - c d; m = (((f 9 2) 3) 4);", 9, "0: 6 7 3 0 4 0");
        Checks.dueRun("k a b = \\c. + a + b c; m = ((k 1) 2 3);", 9, "0: 6 5 2 0 3 0");
        // the first function's own term is one deeper, the last one's is not
        Checks.dueRun("f a = ! + 1 1 \\b. b; m = (f 1 2);", 9, "0: 2 4 1 0 4 0");
        Checks.dueRun("f a = \\b. ! + 1 1 b; m = (f 1 2);", 9, "0: 2 4 1 0 3 0");
        Checks.dueRun("i x = x; m = (i i i i i 3);", 9, "0: 3 5 0 0 2 0");
        // calls within the one that is left to wait must not touch what waits
        Checks.dueRun("i x = x; g a b c = ! (i a) \\d e. - b - c - d e; m = (g 1 20 3 400 5);", 99,
            "0: 412 7 1 0 4 0");
    }

    private static void choices() {
        Checks.dueRun("m = @ #3 { 2 : 1; };", 9, "-6: 0 1 0 0 2 0");
        Checks.dueRun("m = @ #2(1) { 2 : 1; };", 9, "-6: 0 1 1 0 2 0");
        Checks.dueRun("m = @ #2 { 2 a : 1; };", 9, "-6: 0 1 0 0 2 0");
        Checks.dueRun("m = @ #2(1) { 2 : 1; _ : 4; };", 9, "0: 4 1 1 0 2 0");
        Checks.dueRun("m = @ 5 { _ : 4; };", 9, "-2: 0 1 0 0 2 0");
        Checks.dueRun("m = @ 5 { _ : 4; };", 0, "-5: 0 0 0 0 2 0");
        Checks.dueRun("m = @ \\x. x { _ : 4; };", 9, "-2: 0 1 1 0 2 0");
        Checks.dueRun("m = @ #2(5, 6) { 1 : 9; 2 a b : - a b; };", 9, "0: -1 2 1 0 2 0");
        Checks.dueRun("m = @ < 1 2 { 0 : 8; 1 : 9; };", 9, "0: 9 2 0 0 3 0");
        Checks.dueRun("m = @ #999 { 998 : 8; 999 : 9; };", 9, "0: 9 1 0 0 2 0");
        Checks.dueRun("m = @ #1(? 7) { 1 a : 9; };", 9, "0: 9 1 2 0 2 0");
        Checks.dueRun("m = @ #1(? 7) { 1 a : a; };", 9, "107: 0 1 2 0 2 0");
    }

    private static void limits() {
        Checks.dueRun("f x = (f x); m = (f 1);", 20000, "-5: 0 20000 0 0 2 0");
        Checks.dueRun("f x = (f x); m = (f 1);", 0, "-5: 0 0 0 0 2 0");
        Checks.dueRun("m = + + 1 2 3;", 2, "0: 6 2 0 0 3 0");
        Checks.dueRun("m = + + 1 2 3;", 1, "-5: 0 1 0 0 3 0");
    }

    private static void objects() {
        String count = "f n = @ = n 0 { 1 : %s; _ : (f - n 1); }; k a b = a; d = 5; m = (f %d);";
        Checks.dueRun(String.format(count, "0", 3000), 20000, "0: 0 12003 3000 3000 5 0");
        Checks.dueRun(String.format(count, "0", 3001), 20000, "-4: 0 12004 3000 3000 5 0");
        Checks.dueRun(String.format(count, "#1", 3000), 20000, "2: 1 12003 3000 3000 5 0");
        Checks.dueRun(String.format(count, "#1(1)", 2999), 20000, "2: 1 11999 3000 2999 5 1");
        Checks.dueRun(String.format(count, "#1(1)", 3000), 20000, "-4: 0 12003 3000 3000 5 0");
        Checks.dueRun(String.format(count, "(k 1)", 3000), 20000, "-4: 0 12004 3000 3000 5 0");
        Checks.dueRun(String.format(count, "(k 1 2)", 3000), 20000, "0: 1 12004 3000 3000 5 0");
        Checks.dueRun(String.format(count, "\\x. x", 3000), 20000, "-4: 0 12003 3000 3000 5 0");
        Checks.dueRun(String.format(count, "d", 3000), 20000, "-4: 0 12003 3000 3000 5 0");
        Checks.dueRun(String.format(count, "d", 2999), 20000, "0: 5 11999 3000 3000 5 0");
        Checks.dueRun(String.format(count, "(k 1 d)", 3000), 20000, "-4: 0 12004 3000 3000 5 0");
        Checks.dueRun(String.format(count, "let x = + n n in 7", 3000), 20000, "-4: 0 12003 3000 3000 5 0");
        Checks.dueRun(String.format(count, "k", 3000), 20000, "1: 2 12003 3000 3000 5 0");
    }

    private static void depth() {
        Checks.dueRun("f x = + 1 (f x); m = (f 1);", 20000, "-7: 0 149 0 0 150 0");
        // x is wanted at K + 8, where it is under way; K = 142 is the last that can ask
        String loop = "g n x = @ = n 0 { 1 : + 1 + 1 + 1 + 1 + 1 + 1 x; _ : + 1 (g - n 1 x); };"
            + " m = let x = (g %d x) in x;";
        dueDepth(String.format(loop, 141), -3, 149);
        dueDepth(String.format(loop, 142), -3, 150);
        dueDepth(String.format(loop, 143), -7, 150);
        // y is wanted at K + 7, its term is one deeper, and the numbers in that still one
        String sum = "g n y = @ = n 0 { 1 : + 1 + 1 + 1 + 1 + 1 + 1 y; _ : + 1 (g - n 1 y); };"
            + " m = (g %d + 1 2);";
        dueDepth(String.format(sum, 141), 0, 150);
        dueDepth(String.format(sum, 142), -7, 150);
        // a choice's and a let's last term, and the second of !, are as deep as the whole
        Checks.dueRun("f n = @ = n 0 { 1 : 7; _ : let k = - n 1 in ! 1 (f k); }; m = (f 500);", 20000,
            "0: 7 2503 500 500 5 0");
    }

    /** Terms that are nested 40 deep, by each part that may be a term. */
    private static void deepTexts() {
        Checks.dueRun("m = " + Checks.times("+ 1 ", 39) + "1;", 99, "0: 40 39 0 0 40 0");
        Checks.dueRun("m = " + Checks.times("+ ", 39) + "1" + Checks.times(" 1", 39) + ";", 99, "0: 40 39 0 0 40 0");
        Checks.dueRun("m = " + Checks.times("let x = 1 in ", 39) + "x;", 99, "0: 1 0 0 0 1 0");
        Checks.dueRun("m = " + Checks.times("@ ", 39) + "#1" + Checks.times("{1:#1;}", 39) + ";", 99, "2: 1 39 0 0 40 0");
        Checks.dueRun("m = " + Checks.times("@#1{1:", 39) + "1" + Checks.times(";}", 39) + ";", 99, "0: 1 39 0 0 2 0");
        Checks.dueRun("m = " + Checks.times("(", 39) + "f" + Checks.times(" 1)", 39) + "; f x = f;", 99, "1: 1 39 0 0 40 0");
    }

    private static void dueDepth(String text, int answer, int deepest) {
        ClosureClasses x = Checks.program(text);
        Checks.due("run of " + text, x.run(20000), answer);
        Checks.due("depth of " + text, x.told(4), deepest);
    }

    private static void eachRunBeginsAnew() {
        ClosureClasses x = Checks.program("c = + 1 2; m = + c c;");
        for (int i = 0; i < 3; i++) {
            Checks.due("run again", x.run(9), 0);
            Checks.due("told of it", Checks.toldAll(x), "6 2 1 1 4 0");
            Checks.due("run with less", x.run(1), -5);
            Checks.due("told of that", Checks.toldAll(x), "0 1 1 1 4 0");
        }
    }
}
