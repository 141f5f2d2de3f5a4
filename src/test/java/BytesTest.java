/** Promises 4 and 5: how many units a text has, and the bytes of each. */
public final class BytesTest {
    public static void main(String[] args) {
        leaves();
        calls();
        lets();
        captured();
        choices();
        numbersOfUnits();
        Checks.finish();
    }

    private static void dueUnits(String text, String... units) {
        Checks.dueUnits(text, units);
    }

    private static void leaves() {
        dueUnits("m = 258;", "0 0 0 10 0 0 1 2");
        dueUnits("m = 2147483647;", "0 0 0 10 127 255 255 255");
        dueUnits("m = #7;", "0 0 0 15 0 7 0");
        dueUnits("m = #999;", "0 0 0 15 3 231 0");
        dueUnits("m = ? 42;", "0 0 0 18 42");
        dueUnits("m = ! 1 ? 2;", "0 0 0 17 33 10 0 0 0 1 18 2");
        dueUnits("m = - % 1 2 = 3 4;",
            "0 0 0 17 45 17 37 10 0 0 0 1 10 0 0 0 2 17 61 10 0 0 0 3 10 0 0 0 4");
        dueUnits("m = b; a = 1; b = 2;", "0 0 0 11 2 2", "0 0 0 10 0 0 0 1", "0 0 0 10 0 0 0 2");
    }

    private static void calls() {
        dueUnits("f a b = b; m = (f 1 m);",
            "0 0 2 11 0 1",
            "0 0 0 12 2 11 2 0 0 0 0 0 1 1 2 1");
        dueUnits("m = #258(1, m, \\x. x, + 1 2);",
            "0 0 0 15 1 2 4 0 0 0 0 1 1 2 0 2 0 1 2 0 2",
            "1 0 1 11 0 0",
            "2 0 0 17 43 10 0 0 0 1 10 0 0 0 2");
        dueUnits("m = (\\x. x 1);", "0 0 0 12 1 13 0 1 0 0 0 0 1", "1 0 1 11 0 0");
    }

    private static void lets() {
        dueUnits("f a = let b = (a b) in let c = b in + b c;",
            "0 0 1 14 2 0 1 14 1 0 1 17 43 11 0 1 11 0 2",
            "2 2 0 0 0 1 0 12 1 11 1 0 1 1 1");
        dueUnits("m = let x = x in x;", "0 0 0 14 2 0 1 11 0 0", "2 1 0 0 0 11 1 0");
        dueUnits("m = let x = 5 in let y = m in x;", "0 0 0 14 0 0 0 0 5 14 1 2 0 11 0 0");
        dueUnits("m = let f = \\x. (f x) in f;",
            "0 0 0 14 2 0 1 11 0 0",
            "1 1 0 0 1 12 1 11 1 0 1 0 0");
        dueUnits("f p = + let a = 1 in a let b = 2 in b;",
            "0 0 1 17 43 14 0 0 0 0 1 11 0 1 14 0 0 0 0 2 11 0 1");
        dueUnits("f x = let x = x in x;", "0 0 1 14 2 0 1 11 0 1", "2 1 0 1 0 11 1 0");
    }

    private static void captured() {
        dueUnits("f a b = \\c. \\d. + b (c d a);",
            "0 0 2 13 0 1",
            "1 2 0 1 0 0 1 13 0 2",
            "1 3 1 0 0 0 1 1 1 17 43 11 1 0 12 2 11 1 1 1 0 0 1 1 2");
        dueUnits("f a b = \\x. + b + a b;",
            "0 0 2 13 0 1",
            "1 2 0 1 0 0 1 17 43 11 1 0 17 43 11 1 1 11 1 0");
        dueUnits("f x = \\x. \\y. let x = y in x;",
            "0 0 1 13 0 1",
            "1 0 1 13 0 2",
            "1 0 1 14 1 0 0 11 0 1");
        dueUnits("f x = @ x { 1 x : (x \\y. x); };",
            "0 0 1 16 11 0 0 1 0 1 1 0 8 12 1 11 0 1 2 0 1",
            "1 1 0 1 1 11 1 0");
        // behind 39 definitions the names bound around are found as ever
        StringBuilder many = new StringBuilder();
        for (int i = 0; i < 39; i++) {
            many.append((char) ('a' + i % 26)).append((char) ('a' + i / 26)).append("=1;");
        }
        ClosureClasses x = Checks.program(many + "f a = \\b. \\c. \\d. a;");
        Checks.due("the last but one", Checks.bytesOf(x, 41), "1 1 1 0 1 13 0 42");
        Checks.due("the last", Checks.bytesOf(x, 42), "1 1 1 0 1 11 1 0");
        // within the second unit the third tells b, then the second itself tells a
        dueUnits("f a b = (1 #1(+ b 1, a));",
            "0 0 2 12 1 10 0 0 0 1 2 0 1",
            "2 2 0 1 0 0 0 15 0 1 2 2 0 2 1 1 1",
            "2 1 1 0 0 17 43 11 1 0 10 0 0 0 1");
    }

    private static void choices() {
        dueUnits("f x = @ x { 1 a b : + a b; 300 : x; _ : 9; };",
            "0 0 1 16 11 0 0 3"
            + " 0 1 2 0 8 17 43 11 0 1 11 0 2"
            + " 1 44 0 0 3 11 0 0"
            + " 255 255 0 0 5 10 0 0 0 9");
        dueUnits("f p = let a = 1 in @ a { 0 b : let c = 2 in + c b; _ : let d = 3 in + d a; };",
            "0 0 1 14 0 0 0 0 1 16 11 0 1 2"
            + " 0 0 1 0 14 14 0 0 0 0 2 17 43 11 0 3 11 0 2"
            + " 255 255 0 0 14 14 0 0 0 0 3 17 43 11 0 2 11 0 1");
        ClosureClasses x = Checks.program("m = @ 1 { 1 : " + Checks.times("+ 1 ", 37) + "1; };");
        // 37 times 17 43 and a number, and one more number: 264 bytes
        Checks.due("high byte of a term's length", x.byteAt(0, 13), 1);
        Checks.due("low byte of a term's length", x.byteAt(0, 14), 8);
    }

    private static void numbersOfUnits() {
        dueUnits("a = (1 (2 #3) \\x. x); b = \\y. (y #4);",
            "0 0 0 12 2 10 0 0 0 1 2 0 1 2 0 3",
            "2 0 0 12 1 10 0 0 0 2 2 0 2",
            "2 0 0 15 0 3 0",
            "1 0 1 11 0 0",
            "0 0 0 13 0 5",
            "1 0 1 12 1 11 0 0 2 0 6",
            "2 0 0 15 0 4 0");
        StringBuilder many = new StringBuilder();
        for (int i = 0; i < 39; i++) {
            many.append((char) ('a' + i % 26)).append((char) ('a' + i / 26)).append("=(1#0#0#0#0#0#0);");
        }
        ClosureClasses x = new ClosureClasses();
        Checks.due("many units", Checks.readText(x, many + "m=(1#5);"), 275);
        Checks.due("a unit's number above 255", Checks.bytesOf(x, 273), "0 0 0 12 1 10 0 0 0 1 2 1 18");
        Checks.due("that unit", Checks.bytesOf(x, 274), "2 0 0 15 0 5 0");
    }
}
