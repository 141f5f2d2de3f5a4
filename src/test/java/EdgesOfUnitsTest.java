import java.util.ArrayList;
import java.util.List;

/**
 * The edges of what is a unit, what it captured and where things are, sentence by sentence of
 * the document.
 */
public final class EdgesOfUnitsTest {
    public static void main(String[] args) {
        whatIsDelayed();
        whatIsNot();
        ownNameOfLet();
        numbersOfUnits();
        nothingCaptured();
        capturedOnce();
        capturedByOrder();
        capturedWithin();
        innermostName();
        laterDefinition();
        locals();
        manyLocals();
        manyFields();
        manyDefinitions();
        operands();
        lengths();
        Checks.finish();
    }

    /** Where an OPERAND may stand (as %s), and the bytes of that unit (with the OPERAND as %s). */
    private static final String[][] OPERAND_PLACES = {
        {"m = (1 %s);", "0 0 0 12 1 10 0 0 0 1 %s"},
        {"m = let y = %s in 1;", "0 0 0 14 %s 10 0 0 0 1"},
        {"m = #2(%s);", "0 0 0 15 0 2 1 %s"}};

    private static void whatIsDelayed() {
        Checks.sentence("A DELAYED term is an argument, a let's first term, or a constructor's part that is no NUMBER, NAME, function");
        String[][] terms = {
            {"(1 2)", "12 1 10 0 0 0 1 0 0 0 0 2"}, {"let x = 1 in x", "14 0 0 0 0 1 11 0 0"}, {"#3", "15 0 3 0"},
            {"#3(4)", "15 0 3 1 0 0 0 0 4"}, {"@ 1 { _ : 2; }", "16 10 0 0 0 1 1 255 255 0 0 5 10 0 0 0 2"},
            {"? 5", "18 5"}};
        for (String[] place : OPERAND_PLACES) {
            for (String[] term : terms) {
                Checks.dueUnits(String.format(place[0], term[0]), String.format(place[1], "2 0 1"), "2 0 0 " + term[1]);
            }
            for (char sign : "+-*/%<=!".toCharArray()) {
                Checks.dueUnits(String.format(place[0], sign + " 1 2"), String.format(place[1], "2 0 1"),
                    "2 0 0 17 " + (int) sign + " 10 0 0 0 1 10 0 0 0 2");
            }
        }
    }

    private static void whatIsNot() {
        Checks.sentence("that is no NUMBER, NAME, function");
        for (String[] place : OPERAND_PLACES) {
            Checks.dueUnits(String.format(place[0], "7"), String.format(place[1], "0 0 0 0 7"));
            Checks.dueUnits(String.format(place[0], "m"), String.format(place[1], "1 2 0"));
            Checks.dueUnits(String.format(place[0], "\\x. 7"), String.format(place[1], "2 0 1"), "1 0 1 10 0 0 0 7");
        }
        Checks.sentence("an argument, a let's first term, or a constructor's part: no other term is DELAYED");
        Checks.dueUnits("m = (+ 1 2 3);", "0 0 0 12 1 17 43 10 0 0 0 1 10 0 0 0 2 0 0 0 0 3");
        Checks.dueUnits("m = let x = 1 in + 1 2;", "0 0 0 14 0 0 0 0 1 17 43 10 0 0 0 1 10 0 0 0 2");
        Checks.dueUnits("m = @ + 1 2 { 1 : + 3 4; };",
            "0 0 0 16 17 43 10 0 0 0 1 10 0 0 0 2 1 0 1 0 0 12 17 43 10 0 0 0 3 10 0 0 0 4");
        Checks.dueUnits("m = \\x. + 1 2;", "0 0 0 13 0 1", "1 0 1 17 43 10 0 0 0 1 10 0 0 0 2");
        Checks.dueUnits("m = ! (1 2) #3;", "0 0 0 17 33 12 1 10 0 0 0 1 0 0 0 0 2 15 0 3 0");
    }

    private static void ownNameOfLet() {
        Checks.sentence("so is a let's first term that is just the NAME that it binds");
        Checks.dueUnits("m = let x = x in 1;", "0 0 0 14 2 0 1 10 0 0 0 1", "2 1 0 0 0 11 1 0");
        // another NAME, bound around or a definition, is none, nor is its own NAME within more
        Checks.dueUnits("f y = let x = y in x;", "0 0 1 14 1 0 0 11 0 1");
        Checks.dueUnits("x = let y = x in y;", "0 0 0 14 1 2 0 11 0 0");
        Checks.dueUnits("m = let x = \\y. x in 1;", "0 0 0 14 2 0 1 10 0 0 0 1", "1 1 0 0 1 11 1 0");
        Checks.dueUnits("m = let x = 1 in let y = x in y;", "0 0 0 14 0 0 0 0 1 14 1 0 0 11 0 1");
        // also when the NAME means something around already
        Checks.dueUnits("x = let x = x in x;", "0 0 0 14 2 0 1 11 0 0", "2 1 0 0 0 11 1 0");
        Checks.dueUnits("m = let x = 1 in let x = x in x;", "0 0 0 14 0 0 0 0 1 14 2 0 1 11 0 1", "2 1 0 1 0 11 1 0");
        // an argument or a part that is a NAME is never one
        Checks.dueUnits("m = let x = #1(x) in (x x);", "0 0 0 14 2 0 1 12 1 11 0 0 1 0 0", "2 1 0 0 0 15 0 1 1 1 1 0");
        Checks.dueUnits("m = let xy = (1 xy) in 1;", "0 0 0 14 2 0 1 10 0 0 0 1",
            "2 1 0 0 0 12 1 10 0 0 0 1 1 1 0");
    }

    private static void numbersOfUnits() {
        Checks.sentence("numbers: by the places at which they begin in the TEXT, definitions (with all that is in them) in order");
        Checks.dueUnits("b = 1; a = 2;", "0 0 0 10 0 0 0 1", "0 0 0 10 0 0 0 2");
        Checks.dueUnits("m = (\\x. ?1 (\\x. ?2 ?3) \\x. #1(?4)); n = ?5;",
            "0 0 0 12 2 13 0 1 2 0 2 2 0 5",
            "1 0 1 18 1",
            "2 0 0 12 1 13 0 3 2 0 4",
            "1 0 1 18 2",
            "2 0 0 18 3",
            "1 0 1 15 0 1 1 2 0 6",
            "2 0 0 18 4",
            "0 0 0 18 5");
        Checks.dueUnits("m = + let x = ?1 in ?2 @ #1(?3) { 1 y : (y ?4); _ : (1 ?5); };",
            "0 0 0 17 43 14 2 0 1 18 2 16 15 0 1 1 2 0 2 2"
            + " 0 1 1 0 8 12 1 11 0 0 2 0 3 255 255 0 0 10 12 1 10 0 0 0 1 2 0 4",
            "2 0 0 18 1", "2 0 0 18 3", "2 0 0 18 4", "2 0 0 18 5");
        Checks.sentence("definitions (with all that is in them) in order: a definition comes ahead of its function");
        Checks.dueUnits("m=\\x.x;n=\\x.x;", "0 0 0 13 0 1", "1 0 1 11 0 0", "0 0 0 13 0 3", "1 0 1 11 0 0");
    }

    private static void nothingCaptured() {
        Checks.sentence("CAPTURED are the NAMES bound around it (not definitions) that are told in it");
        Checks.dueUnits("f a = \\b. b;", "0 0 1 13 0 1", "1 0 1 11 0 0");
        Checks.dueUnits("f a = \\b. f;", "0 0 1 13 0 1", "1 0 1 11 2 0");
        Checks.dueUnits("f a = \\b. a;", "0 0 1 13 0 1", "1 1 0 0 1 11 1 0");
        Checks.dueUnits("f a = #1(? 1);", "0 0 1 15 0 1 1 2 0 1", "2 0 0 18 1");
        Checks.dueUnits("f a = #1(+ a 1);", "0 0 1 15 0 1 1 2 0 1", "2 1 0 0 0 17 43 11 1 0 10 0 0 0 1");
        // a NAME that is bound again within is not told
        Checks.dueUnits("f a = \\b. let a = b in a;", "0 0 1 13 0 1", "1 0 1 14 1 0 0 11 0 1");
        Checks.dueUnits("f a = \\b. @ b { 1 a : a; };", "0 0 1 13 0 1", "1 0 1 16 11 0 0 1 0 1 1 0 3 11 0 1");
        Checks.dueUnits("f a = \\b. \\a. a;", "0 0 1 13 0 1", "1 0 1 13 0 2", "1 0 1 11 0 0");
        // but beside that it may be
        Checks.dueUnits("f a = \\b. + let a = b in a a;", "0 0 1 13 0 1",
            "1 1 0 0 1 17 43 14 1 0 0 11 0 1 11 1 0");
        Checks.dueUnits("f a = \\b. @ b { 1 a : 1; _ : a; };", "0 0 1 13 0 1",
            "1 1 0 0 1 16 11 0 0 2 0 1 1 0 5 10 0 0 0 1 255 255 0 0 3 11 1 0");
    }

    private static void capturedOnce() {
        Checks.sentence("CAPTURED .. in the order of their first places: each once");
        Checks.dueUnits("f a = \\b. + a + a a;", "0 0 1 13 0 1", "1 1 0 0 1 17 43 11 1 0 17 43 11 1 0 11 1 0");
        Checks.dueUnits("f a = (a a a);", "0 0 1 12 2 11 0 0 1 0 0 1 0 0");
    }

    private static void capturedByOrder() {
        Checks.sentence("in the order of their first places in it");
        Checks.dueUnits("f a b c = \\d. (c a c b a);", "0 0 3 13 0 1",
            "1 3 0 2 0 0 0 1 1 12 4 11 1 0 1 1 1 1 1 0 1 1 2 1 1 1");
        Checks.dueUnits("f a b = let c = 1 in \\d. + c + b a;", "0 0 2 14 0 0 0 0 1 13 0 1",
            "1 3 0 2 0 1 0 0 1 17 43 11 1 0 17 43 11 1 1 11 1 2");
        Checks.dueUnits("f a = @ a { 1 b c : \\d. + c + a b; };",
            "0 0 1 16 11 0 0 1 0 1 2 0 3 13 0 1",
            "1 3 0 2 0 0 0 1 1 17 43 11 1 0 17 43 11 1 1 11 1 2");
    }

    private static void capturedWithin() {
        Checks.sentence("of what is in it within too");
        Checks.dueUnits("f a b = \\c. \\d. a;", "0 0 2 13 0 1", "1 1 0 0 1 13 0 2", "1 1 1 0 1 11 1 0");
        // the place within counts: b is told there ahead of a
        Checks.dueUnits("f a b = \\c. + (c \\d. b) a;", "0 0 2 13 0 1",
            "1 2 0 1 0 0 1 17 43 12 1 11 0 0 2 0 2 11 1 1", "1 1 1 0 1 11 1 0");
        Checks.dueUnits("f a b = \\c. + a (c \\d. (b a c));", "0 0 2 13 0 1",
            "1 2 0 0 0 1 1 17 43 11 1 0 12 1 11 0 0 2 0 2",
            "1 3 1 1 1 0 0 0 1 12 2 11 1 0 1 1 1 1 1 2");
        // through units that tell nothing of it themselves
        Checks.dueUnits("f a = \\b. (1 (2 \\c. a));", "0 0 1 13 0 1", "1 1 0 0 1 12 1 10 0 0 0 1 2 0 2",
            "2 1 1 0 0 12 1 10 0 0 0 2 2 0 3", "1 1 1 0 1 11 1 0");
    }

    private static void innermostName() {
        Checks.sentence("A NAME in a TERM means the innermost one bound around it (parameter, let, choice)");
        Checks.dueUnits("x = 1; f x = x;", "0 0 0 10 0 0 0 1", "0 0 1 11 0 0");
        Checks.dueUnits("f x = let x = 1 in x;", "0 0 1 14 0 0 0 0 1 11 0 1");
        Checks.dueUnits("f x = @ x { 1 x : x; _ : x; };", "0 0 1 16 11 0 0 2 0 1 1 0 3 11 0 1 255 255 0 0 3 11 0 0");
        Checks.dueUnits("f x = \\x. x;", "0 0 1 13 0 1", "1 0 1 11 0 0");
        Checks.dueUnits("f x = + let x = 1 in x x;", "0 0 1 17 43 14 0 0 0 0 1 11 0 1 11 0 0");
        Checks.dueUnits("f x = let y = 1 in let x = 2 in \\z. (x y);",
            "0 0 1 14 0 0 0 0 1 14 0 0 0 0 2 13 0 1", "1 2 0 2 0 1 1 12 1 11 1 0 1 1 1");
    }

    private static void laterDefinition() {
        Checks.sentence("else the definition of it (also a later one)");
        Checks.dueUnits("a = c; b = a; c = b;", "0 0 0 11 2 2", "0 0 0 11 2 0", "0 0 0 11 2 1");
        Checks.dueUnits("a = + x (let x = 1 in x a); x = 1;", "0 0 0 17 43 11 2 1 12 1 14 0 0 0 0 1 11 0 0 1 2 0",
            "0 0 0 10 0 0 0 1");
    }

    private static void locals() {
        Checks.sentence("A UNIT'S LOCALS: its parameters, then .. what lets and choices around (within the UNIT) bound, from the outside in");
        Checks.dueUnits("f a b = let c = a in @ c { 1 d e : let g = d in (g e d c b a); };",
            "0 0 2 14 1 0 0 16 11 0 2 1 0 1 2 0 24 14 1 0 3"
            + " 12 5 11 0 5 1 0 4 1 0 3 1 0 2 1 0 1 1 0 0");
        // what was bound beside a place is not there
        Checks.dueUnits("f a = + let b = 1 in b let c = 2 in @ c { 1 d : d; 2 e g : g; };",
            "0 0 1 17 43 14 0 0 0 0 1 11 0 1 14 0 0 0 0 2 16 11 0 1 2"
            + " 0 1 1 0 3 11 0 2 0 2 2 0 3 11 0 3");
        // a unit within begins with its own
        Checks.dueUnits("f a = let b = 1 in \\c. let d = b in d;",
            "0 0 1 14 0 0 0 0 1 13 0 1", "1 1 0 1 1 14 1 1 0 11 0 1");
        Checks.dueUnits("f a = (a let d = 1 in d);", "0 0 1 12 1 11 0 0 2 0 1", "2 0 0 14 0 0 0 0 1 11 0 0");
    }

    private static void manyLocals() {
        Checks.sentence("0 and a LOCAL's number, with 240 LOCALS: a byte is 0 .. 255");
        String text = "f a b c d e g = " + Checks.times("@1{1 a b c d e g:", 39) + "%s" + Checks.times(";}", 39) + ";";
        dueLast(Checks.program(String.format(text, "g")), 0, 3 + 39 * 12, "11 0 239");
        dueLast(Checks.program(String.format(text, "a")), 0, 3 + 39 * 12, "11 0 234");
        String run = "m = " + Checks.times("@#1(1,2,3,4,5,6){1 a b c d e g:", 38) + "- a g" + Checks.times(";}", 38) + ";";
        Checks.dueRun(run, 39, "0: -5 39 38 0 2 0");
    }

    private static void dueLast(ClosureClasses x, int unit, int from, String bytes) {
        String[] due = bytes.split(" ");
        Checks.due("size of unit " + unit, x.size(unit), from + due.length);
        for (int i = 0; i < due.length; i++) {
            Checks.due("byte " + (from + i) + " of unit " + unit, x.byteAt(unit, from + i), Integer.parseInt(due[i]));
        }
    }

    /** Names of six in each row, all different. */
    private static String nameOf(int i) {
        int row = i / 6;
        return (char) ('a' + row % 26) + (row < 26 ? "" : "x") + (char) ('p' + i % 6);
    }

    /** The definition's parameters and those of 31 functions within; the innermost tells all, last ones first. */
    private static void manyFields() {
        Checks.sentence("how many are CAPTURED; .. 1 and a FIELD's, with 186 of them: a byte is 0 .. 255");
        List<String> names = new ArrayList<>();
        for (int i = 0; i < 32 * 6; i++) {
            names.add(nameOf(i));
        }
        StringBuilder text = new StringBuilder("q ");
        for (int i = 0; i < names.size(); i++) {
            text.append(i % 6 == 0 && i > 0 ? "\\" : "").append(names.get(i));
            text.append(i % 6 < 5 ? " " : i == 5 ? " = " : " . ");
        }
        text.append(sum(names, 0, names.size())).append("; m = ").append(Checks.times("(", 32)).append("q");
        text.append(Checks.times(" 1 2 3 4 5 6)", 32)).append(";");
        ClosureClasses x = Checks.program(text.toString());
        Checks.due("units", x.byteAt(32, 0), 0);
        Checks.due("fields of the innermost", x.byteAt(31, 1), 186);
        for (int i = 0; i < 186; i++) {
            Checks.due("where of field " + i, x.byteAt(31, 2 + 2 * i), i < 6 ? 0 : 1);
        }
        ClosureClasses y = Checks.program(text.toString());
        for (int i = 0; i < 186; i++) {
            Checks.due("number of field " + i, y.byteAt(31, 3 + 2 * i), i < 6 ? 5 - i : i - 6);
        }
        Checks.due("its parameters", y.byteAt(31, 2 + 2 * 186), 6);
        Checks.due("fields of the one around", y.byteAt(30, 1), 180);
        Checks.due("the last of these", y.byteAt(30, 2 + 2 * 180 - 1), 173);
        // each is added once: 32 times 1 + .. + 6; 32 calls, 191 sums, 31 functions made
        Checks.due("run", y.run(32 + 191), 0);
        Checks.due("told", Checks.toldAll(y), "672 223 31 0 33 0");
    }

    /** A tree of sums over the names, the last one first. */
    private static String sum(List<String> names, int from, int to) {
        if (to - from == 1) {
            return names.get(from) + " ";
        }
        int middle = (from + to) / 2;
        return "+ " + sum(names, middle, to) + sum(names, from, middle);
    }

    private static void manyDefinitions() {
        Checks.sentence("2 and a definition (by its order, from 0)");
        StringBuilder text = new StringBuilder();
        for (int i = 0; i < 39; i++) {
            text.append((char) ('a' + i % 26)).append((char) ('a' + i / 26)).append("=").append(i).append(";");
        }
        ClosureClasses x = Checks.program(text + "m=(aa mb m);");
        Checks.due("the first, the last but one, the last", Checks.bytesOf(x, 39), "0 0 0 12 2 11 2 0 1 2 38 1 2 39");
        Checks.dueRun(text + "m=+ mb + ab aa;", 9, "0: 64 2 3 3 4 0");
    }

    private static void operands() {
        Checks.sentence("An OPERAND: 0 and a NUMBER (4 bytes, highest first), 1 and a PLACE, 2 and a UNIT (2 bytes)");
        Checks.dueUnits("f a = \\b. #1(16909060, 2147483647, a, b, f, ?1);", "0 0 1 13 0 1",
            "1 1 0 0 1 15 0 1 6 0 1 2 3 4 0 127 255 255 255 1 1 0 1 0 0 1 2 0 2 0 2", "2 0 0 18 1");
        StringBuilder many = new StringBuilder();
        for (int i = 0; i < 39; i++) {
            many.append((char) ('a' + i % 26)).append((char) ('a' + i / 26)).append("=(1#0#0#0#0#0#0);");
        }
        // 39 times 7 units are ahead of m: its own, a function and a delayed one have numbers above 255
        ClosureClasses x = Checks.program(many + "m=(\\x.x#5);");
        Checks.due("units above 255", Checks.bytesOf(x, 273), "0 0 0 12 1 13 1 18 2 1 19");
        Checks.due("that function", Checks.bytesOf(x, 274), "1 0 1 11 0 0");
        Checks.due("that delayed one", Checks.bytesOf(x, 275), "2 0 0 15 0 5 0");
        Checks.due("no more", x.size(276), ClosureClasses.BAD);
        Checks.due("run", x.run(9), 2);
        Checks.due("told", Checks.toldAll(x), "5 1 2 1 2 0");
    }

    private static void lengths() {
        Checks.sentence("for each: k (2 bytes; 65535 for _), n, how many bytes (2), TERM");
        for (int sums : new int[] {35, 36}) {
            // 7 bytes for each sum with its first number, 5 for the last number: 250 and 257
            String text = "m = @ #1 { 258 : 1; 1 : " + Checks.times("+ 1 ", sums) + "1; _ : 7; };";
            int length = 7 * sums + 5;
            ClosureClasses x = Checks.program(text);
            Checks.due("k", x.byteAt(0, 9) * 256 + x.byteAt(0, 10), 258);
            Checks.due("length of a number", x.byteAt(0, 12) * 256 + x.byteAt(0, 13), 5);
            Checks.due("length", x.byteAt(0, 22) * 256 + x.byteAt(0, 23), length);
            Checks.due("_", x.byteAt(0, 24 + length) * 256 + x.byteAt(0, 25 + length), 65535);
            Checks.due("names of _", x.byteAt(0, 26 + length), 0);
            Checks.due("size", x.size(0), 24 + length + 10);
            Checks.due("run", x.run(99), 0);
            Checks.due("told(0)", x.told(0), sums + 1);
        }
    }
}
