/** Promise 8: parts of the constructor that the latest run gave. */
public final class PartTest {
    public static void main(String[] args) {
        kindsOfParts();
        whatIsLeftOfTheLimit();
        faults();
        setOnce();
        Checks.finish();
    }

    private static void dueTold(String what, ClosureClasses x, String want) {
        Checks.due("told after " + what, Checks.toldAll(x), want);
    }

    private static void kindsOfParts() {
        ClosureClasses x = Checks.program("m = #4(+ 1 2, 5, \\x y. x, #2(7, n)); n = #3;");
        Checks.due("run", x.run(10), 2);
        dueTold("run", x, "4 0 4 0 1 4");
        Checks.due("part(-1)", x.part(-1), ClosureClasses.STATE);
        Checks.due("part(4)", x.part(4), ClosureClasses.STATE);
        Checks.due("part(max)", x.part(Integer.MAX_VALUE), ClosureClasses.STATE);
        dueTold("STATE", x, "4 0 4 0 1 4");
        Checks.due("part(0)", x.part(0), 0);
        dueTold("part(0)", x, "3 1 4 1 2 0");
        Checks.due("part of an int", x.part(0), ClosureClasses.STATE);
        Checks.due("run", x.run(10), 2);
        Checks.due("part(1)", x.part(1), 0);
        dueTold("part(1)", x, "5 0 4 0 1 0");
        Checks.due("run", x.run(10), 2);
        Checks.due("part(2)", x.part(2), 1);
        dueTold("part(2)", x, "2 0 4 0 1 0");
        Checks.due("part of a function", x.part(0), ClosureClasses.STATE);
        Checks.due("run", x.run(10), 2);
        Checks.due("part(3)", x.part(3), 2);
        dueTold("part(3)", x, "2 0 6 1 1 2");
        Checks.due("part(1) of part(3)", x.part(1), 2);
        dueTold("part(1) of part(3)", x, "3 0 6 2 1 0");
        Checks.due("part of a constructor without", x.part(0), ClosureClasses.STATE);
        dueTold("STATE", x, "3 0 6 2 1 0");
    }

    private static void whatIsLeftOfTheLimit() {
        ClosureClasses x = Checks.program("l n = #1(n, (l + n 1)); m = (l 0);");
        Checks.due("run(3)", x.run(3), 2);
        Checks.due("part(1), the second step", x.part(1), 2);
        Checks.due("part(1), the third step", x.part(1), 2);
        dueTold("the third step", x, "1 3 8 2 2 2");
        Checks.due("part(1), no step is left", x.part(1), -5);
        dueTold("no step", x, "0 3 8 2 2 0");
        Checks.due("part after a fault", x.part(1), ClosureClasses.STATE);
        Checks.due("run(0)", x.run(0), -5);
        Checks.due("run(3) again", x.run(3), 2);
        dueTold("run(3) again", x, "1 1 2 0 2 2");
    }

    private static void faults() {
        ClosureClasses x = Checks.program("m = let p = #1(p, ? 9, / 1 0, q) in p; q = q;");
        int[] due = {2, 109, -1, -3};
        for (int i = 0; i < due.length; i++) {
            Checks.due("run", x.run(5), 2);
            Checks.due("part " + i, x.part(i), due[i]);
        }
        dueTold("a loop", x, "0 0 5 1 2 0");
        // a part's own term is at depth 1, so (f 0) is at 146 and all within it 4 deeper at most
        String nest = "f n = @ = n 0 { 1 : 0; _ : + 1 (f - n 1); }; m = #1((f %d));";
        ClosureClasses y = Checks.program(String.format(nest, 145));
        Checks.due("run", y.run(20000), 2);
        Checks.due("deep part", y.part(0), 0);
        Checks.due("its depth", y.told(4), 150);
        ClosureClasses z = Checks.program(String.format(nest, 146));
        Checks.due("run", z.run(20000), 2);
        Checks.due("too deep a part", z.part(0), -7);
        Checks.due("its depth", z.told(4), 150);
    }

    private static void setOnce() {
        ClosureClasses x = Checks.program("m = let x = #1(+ 2 3, x) in x;");
        Checks.due("run", x.run(50), 2);
        dueTold("run", x, "1 0 3 1 2 2");
        Checks.due("part(1)", x.part(1), 2);
        dueTold("part(1)", x, "1 0 3 1 2 2");
        Checks.due("part(0)", x.part(0), 0);
        dueTold("part(0)", x, "5 1 3 2 2 0");
    }
}
