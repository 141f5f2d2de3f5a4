import java.util.ArrayList;
import java.util.List;

/**
 * The bounds of texts, sentence by sentence of the document: what is a piece, how many of each
 * there may be, how deep terms may be nested, and where a text is WRONG.
 */
public final class EdgesOfTextTest {
    private static final String SIGNS = "(){}\\.=;:,#?!+-*/%<_@";

    /** A text with one NAME (as %s) for each way in which a NAME may be bound. */
    private static final String[] BINDING = {"%s = 1;", "f %s = 1;", "f a %s = 1;", "f = \\%s. 1;", "f = \\a %s. 1;",
        "f = let %s = 1 in 1;", "f = @ 1 { 1 %s : 1; };", "f = @ 1 { 1 a %s : 1; };"};

    public static void main(String[] args) {
        blanks();
        everyByte();
        namesByLength();
        wordsThatAreNoNames();
        numbers();
        wherePiecesPart();
        definitions();
        definitionsAreDifferent();
        parameters();
        arguments();
        functions();
        lets();
        constructorNumbers();
        constructorParts();
        choiceCount();
        choiceLast();
        choiceNumbers();
        choiceNames();
        signsWithTwoTerms();
        faultNumbers();
        nesting();
        nestingBeginsAnew();
        farRight();
        piecesThatCanFollow();
        moreMustCome();
        firstOfTwo();
        namesThatMeanNothing();
        Checks.finish();
    }

    private static void wrong(String marked) {
        Checks.wrong(marked);
    }

    private static void right(String text, int units) {
        Checks.right(text, units);
    }

    private static void blanks() {
        Checks.sentence("parted by blanks (32, 10)");
        right("m = 1;", 1);
        right("m\n=\n1\n;\n", 1);
        right("\n\n  \n m  =\n \n1 ;  ", 1);
        for (char none : new char[] {0, 8, 9, 11, 12, 13, 31, 127, 133, 160}) {
            wrong("^" + none + "m = 1;");
            wrong("m = ^" + none + "1;");
            wrong("m = 1;^" + none);
        }
    }

    private static void everyByte() {
        Checks.sentence("letters a .. z; digits; signs are ..; an unknown byte: at its beginning");
        String beginsTerm = "(\\#?!+-*/%<=@";
        for (int b = 0; b < 256; b++) {
            char c = (char) b;
            String text = "m = " + c + ";";
            int due = -1 - 4;
            if (c >= '0' && c <= '9') {
                due = 1;
            } else if (c >= 'a' && c <= 'z') {
                due = c == 'm' ? 1 : -1 - 4;
            } else if (c == ' ' || c == '\n' || beginsTerm.indexOf(c) >= 0) {
                due = -1 - 5;
            }
            Checks.due("byte " + b + " as a term", Checks.readText(new ClosureClasses(), text), due);
        }
        for (int b = 0; b < 256; b++) {
            char c = (char) b;
            boolean name = c >= 'a' && c <= 'z';
            boolean blank = c == ' ' || c == '\n';
            // behind a whole program a NAME may begin a definition, which then goes on
            int due = name && c != 'm' ? -1 - 7 : blank ? 1 : -1 - 6;
            Checks.due("byte " + b + " behind all", Checks.readText(new ClosureClasses(), "m = 1;" + c), due);
        }
    }

    private static void namesByLength() {
        Checks.sentence("NAMES are 1 to 3 letters a .. z; a word of more than 3 letters: at its beginning");
        for (String text : BINDING) {
            int units = text.contains("\\") ? 2 : 1;
            for (String name : new String[] {"b", "z", "bz", "zb", "zzz", "bcz"}) {
                right(String.format(text, name), units);
            }
            for (String name : new String[] {"aaaa", "zzzz", "abcde", "abcdefghijklmnopqrstuvwxyz"}) {
                wrong(String.format(text, "^" + name));
            }
        }
        right("a = abc; abc = ab; ab = a;", 3);
        wrong("a = 1; m = ^abca;");
        wrong("abc = 1; m = ^abcd;");
        Checks.dueRun("ab = 1; abc = 2; a = 3; m = abc;", 9, "0: 2 0 1 1 2 0");
        Checks.dueRun("ab = 1; abc = 2; a = 3; m = ab;", 9, "0: 1 0 1 1 2 0");
        Checks.dueRun("cab = 1; abc = 2; abb = 3; m = cab;", 9, "0: 1 0 1 1 2 0");
    }

    private static void wordsThatAreNoNames() {
        Checks.sentence("let, in, of are none");
        for (String text : BINDING) {
            int units = text.contains("\\") ? 2 : 1;
            for (String word : new String[] {"let", "in", "of"}) {
                wrong(String.format(text, "^" + word));
            }
            for (String name : new String[] {"le", "et", "lt", "tel", "i", "n", "ni", "inn", "o", "fo", "off", "lof"}) {
                right(String.format(text, name), units);
            }
            for (String word : new String[] {"lets", "inin", "ofof"}) {
                wrong(String.format(text, "^" + word));
            }
        }
        wrong("m = ^in;");
        wrong("m = ^of;");
        wrong("m = (1 ^of);");
        wrong("m = (1 ^in);");
        wrong("m = @ 1 ^of { 1 : 1; };");
    }

    private static void numbers() {
        Checks.sentence("NUMBERS are digits (0 .. 2147483647); a NUMBER too great: at its beginning");
        Checks.dueUnits("m = 0;", "0 0 0 10 0 0 0 0");
        Checks.dueUnits("m = 00;", "0 0 0 10 0 0 0 0");
        Checks.dueUnits("m = 2147483647;", "0 0 0 10 127 255 255 255");
        Checks.dueUnits("m = 2147483646;", "0 0 0 10 127 255 255 254");
        Checks.dueUnits("m = 02147483647;", "0 0 0 10 127 255 255 255");
        String[] great = {"2147483648", "2147483650", "3000000000", "4294967295", "4294967296", "4294967297",
            "9999999999", "10000000000", "21474836470", "21474836479", "214748364700", "18446744073709551615", "18446744073709551616", "18446744073709551617",
            "99999999999999999999999999999999999999999999", "02147483648"};
        for (String number : great) {
            wrong("m = ^" + number + ";");
            wrong("m = (1 ^" + number + ");");
            wrong("m = let x = ^" + number + " in 1;");
            wrong("m = # ^" + number + ";");
            wrong("m = ? ^" + number + ";");
            wrong("m = @ 1 { ^" + number + " : 1; };");
            wrong("^" + number + " = 1;");
        }
    }

    private static void wherePiecesPart() {
        Checks.sentence("parted by blanks where needed");
        right("m=let x=1in x;", 1);
        right("a=1;b=+1a;c=+a1;", 3);
        right("m=@#1{1:1;2a b:a;_:m;};", 1);
        right("m=\\x.\\y.(x y);", 3);
        Checks.dueUnits("m=+1 2;", "0 0 0 17 43 10 0 0 0 1 10 0 0 0 2");
        wrong("m=+12^;");
        wrong("m=^letx=1in x;");
        wrong("m=let x=1^inx;");
        wrong("m=let x=1 ^inxy;");
        // a blank within a word or a number makes two pieces of it
        wrong("m = 1 ^1;");
        wrong("m = le ^t x = 1 in x;");
    }

    /** Definitions n0, n1, .. by different NAMES of two letters. */
    private static String definitions(int count) {
        StringBuilder text = new StringBuilder();
        for (int i = 0; i < count; i++) {
            text.append((char) ('a' + i % 26)).append((char) ('a' + i / 26)).append("=").append(i).append(";\n");
        }
        return text.toString();
    }

    private static void definitions() {
        Checks.sentence("A PROGRAM is definitions, 1 to 40; a 41st: at it");
        wrong("^");
        wrong(" \n ^");
        for (int count = 1; count <= 40; count++) {
            right(definitions(count), count);
        }
        wrong(definitions(40) + "^m = 1;");
        wrong(definitions(40) + "  ^m = 1; n = 2;");
        wrong(definitions(40) + "^m");
        wrong(definitions(40) + "^7");
        wrong(definitions(40) + "^aa = 1;");
        right(definitions(39) + "m = 1;", 40);
        right(definitions(40) + " \n ", 40);
    }

    private static void definitionsAreDifferent() {
        Checks.sentence("No two define the same NAME: a definition's NAME told twice: at it");
        wrong("m = 1; ^m = 1;");
        wrong("a = 1; b = 1; c = 1; ^a = 1;");
        wrong("a = 1; b = 1; c = 1; ^b x = 1;");
        wrong("a = 1; b = 1; c = 1; ^c");
        wrong(definitions(39) + "^aa = 1;");
        wrong(definitions(39) + "^mb = 1;");
        right("a = 1; b = 1; c = 1; aa = 1; ab = 1; ba = 1; abc = 1; acb = 1;", 8);
        // names that are bound are no definitions
        right("a a = 1; b a = 1;", 2);
        right("a b = 1; b = let a = 1 in \\b. b;", 3);
    }

    /** NAMES a0, b0, .. in a row. */
    private static String row(int count) {
        StringBuilder names = new StringBuilder();
        for (int i = 0; i < count; i++) {
            names.append(i == 0 ? "" : " ").append((char) ('a' + i));
        }
        return names.toString();
    }

    private static void parameters() {
        Checks.sentence("parameters (NAMES, 6 at most, all different); a 7th, a NAME bound twice in a row: at it");
        for (int n = 0; n <= 6; n++) {
            String text = "m " + row(n) + " = 1;";
            Checks.dueUnits(text, "0 0 " + n + " 10 0 0 0 1");
        }
        wrong("m " + row(6) + " ^g = 1;");
        wrong("m " + row(6) + " ^g h = 1;");
        wrong("m " + row(6) + " ^a = 1;");
        wrong("m " + row(6) + " ^g");
        twiceInARow("m %s = 1;");
    }

    /** In a row of 6 each NAME once more, at each place behind its own. */
    private static void twiceInARow(String text) {
        String[] names = {"a", "b", "c", "d", "e", "f"};
        for (int again = 1; again < 6; again++) {
            for (int first = 0; first < again; first++) {
                String[] row = names.clone();
                row[again] = "^" + names[first];
                wrong(String.format(text, String.join(" ", row)));
            }
        }
    }

    private static void arguments() {
        Checks.sentence("( t t1 .. tn ) n 1 .. 6; a 7th: at it");
        wrong("m = (^);");
        wrong("m = (1^);");
        StringBuilder operands = new StringBuilder();
        for (int n = 1; n <= 6; n++) {
            operands.append(" 0 0 0 0 1");
            String text = "m = (1" + Checks.times(" 1", n) + ");";
            Checks.dueUnits(text, "0 0 0 12 " + n + " 10 0 0 0 1" + operands);
        }
        for (String seventh : new String[] {"7", "m", "(7 8)", "\\x. x", "#1", "let", "@", "+", "?", "!", "-"}) {
            wrong("m = (0 1 2 3 4 5 6 ^" + seventh + ");");
        }
        wrong("m = (0 1 2 3 4 5 6^;");
        // each call is counted for itself
        right("m = ((1 1 1 1 1 1 1) (1 1 1 1 1 1 1) 2 3 4 5 6);", 2);
    }

    private static void functions() {
        Checks.sentence("\\ x1 .. xn . t n 1 .. 6, different; a 7th, a NAME bound twice in a row: at it");
        wrong("m = \\^. 1;");
        for (int n = 1; n <= 6; n++) {
            String text = "m = \\" + row(n) + " . 1;";
            Checks.dueUnits(text, "0 0 0 13 0 1", "1 0 " + n + " 10 0 0 0 1");
        }
        wrong("m = \\" + row(6) + " ^g . 1;");
        wrong("m = \\" + row(6) + " ^a . 1;");
        wrong("m = \\" + row(6) + " ^1 . 1;");
        twiceInARow("m = \\%s . 1;");
        // in another row a NAME may be bound again
        right("m a = \\a. \\a. a;", 3);
        right("m = \\a b c d e f. \\a b c d e f. f;", 3);
    }

    private static void lets() {
        Checks.sentence("let x = t in u: x is t in both");
        Checks.dueUnits("m x = let x = (x 1) in x;", "0 0 1 14 2 0 1 11 0 1", "2 1 0 1 0 12 1 11 1 0 0 0 0 0 1");
        wrong("m = + let x = x in x ^x;");
        wrong("m = let x = 1 in let y = ^z in let z = 1 in 1;");
        right("m = let x = 1 in let x = 2 in let x = 3 in x;", 1);
        wrong("m = let ^= 1 in 1;");
        wrong("m = let x ^y = 1 in 1;");
    }

    private static void constructorNumbers() {
        Checks.sentence("constructor k (NUMBER, 0 .. 999)");
        Checks.dueUnits("m = #0;", "0 0 0 15 0 0 0");
        Checks.dueUnits("m = #255;", "0 0 0 15 0 255 0");
        Checks.dueUnits("m = #256;", "0 0 0 15 1 0 0");
        Checks.dueUnits("m = #998;", "0 0 0 15 3 230 0");
        Checks.dueUnits("m = #999;", "0 0 0 15 3 231 0");
        Checks.dueUnits("m = #999(1);", "0 0 0 15 3 231 1 0 0 0 0 1");
        for (String k : new String[] {"1000", "1001", "65535", "65536", "2147483647"}) {
            wrong("m = #^" + k + ";");
            wrong("m = #^" + k + "(1);");
            wrong("m = #1(1, # ^" + k + ");");
        }
        wrong("m = #^m;");
        wrong("m = #^-1;");
    }

    private static void constructorParts() {
        Checks.sentence("# k ( t1 , .. , tn ) or # k alone, n 1 .. 6; a 7th: at it");
        Checks.dueUnits("m = #1;", "0 0 0 15 0 1 0");
        wrong("m = #1(^);");
        StringBuilder operands = new StringBuilder();
        for (int n = 1; n <= 6; n++) {
            operands.append(" 0 0 0 0 1");
            String text = "m = #1(1" + Checks.times(",1", n - 1) + ");";
            Checks.dueUnits(text, "0 0 0 15 0 1 " + n + operands);
        }
        wrong("m = #1(1,2,3,4,5,6,^7);");
        wrong("m = #1(1,2,3,4,5,6 , ^m , 8);");
        wrong("m = #1(1,2,3,4,5,6,^#7);");
        wrong("m = #1(1,2,3,4,5,6^;");
        wrong("m = #1(1,2,3,4,5,^);");
        wrong("m = #1(1,2 ^3);");
        // each constructor is counted for itself
        right("m = #1(#1(1,1,1,1,1,1),2,3,4,5,#1(1,1,1,1,1,1));", 3);
    }

    private static String choice(int count, String behind) {
        StringBuilder text = new StringBuilder("m = @ 1 { ");
        for (int k = 0; k < count; k++) {
            text.append(k).append(": 1; ");
        }
        return text + behind;
    }

    private static void choiceCount() {
        Checks.sentence("a choice: at least one, at most 12; a 13th: at it");
        wrong("m = @ 1 { ^};");
        for (int n = 1; n <= 12; n++) {
            right(choice(n, "};"), 1);
            right(choice(n - 1, "_ : 1; };"), 1);
            Checks.due("how many of " + n, Checks.program(choice(n, "};")).byteAt(0, 9), n);
            Checks.due("how many of " + n, Checks.program(choice(n - 1, "_ : 1; };")).byteAt(0, 9), n);
        }
        wrong(choice(12, "^12 : 1; };"));
        wrong(choice(12, "^_ : 1; };"));
        wrong(choice(12, "^0 : 1; };"));
        wrong(choice(12, "^12"));
        // each choice is counted for itself
        String inner = choice(12, "}").substring(4);
        right("m = @ " + inner + " { 0 : " + inner + "; 1 : " + inner + "; };", 1);
    }

    private static void choiceLast() {
        Checks.sentence("as the last one, _ : u ; .. each ends with a ;");
        right("m = @ 1 { _ : 1; };", 1);
        right("m = @ 1 { 1 : 1; _ : 1; };", 1);
        wrong("m = @ 1 { _ : 1; ^1 : 1; };");
        wrong("m = @ 1 { _ : 1; ^_ : 1; };");
        wrong("m = @ 1 { 1 : 1; _ : 1; ^2 : 1; };");
        wrong("m = @ 1 { _ ^x : 1; };");
        wrong("m = @ 1 { _ : 1 ^};");
        wrong("m = @ 1 { 1 : 1 ^};");
        wrong("m = @ 1 { 1 : 1 ^2 : 1; };");
        wrong("m = @ 1 { 1 : 1; 2 : 1 ^};");
        // within another one's last there may be others
        right("m = @ 1 { 1 : @ 1 { _ : 1; }; 2 : 1; };", 1);
    }

    private static void choiceNumbers() {
        Checks.sentence("k different: a k told twice: at it; k is a constructor's, 0 .. 999");
        right("m = @ 1 { 0 : 1; 999 : 1; 998 : 1; };", 1);
        wrong("m = @ 1 { ^1000 : 1; };");
        wrong("m = @ 1 { ^65535 : 1; };");
        wrong("m = @ 1 { 1 : 1; ^65536 : 1; };");
        wrong("m = @ 1 { 0 : 1; ^0 : 1; };");
        wrong("m = @ 1 { 999 : 1; ^999 : 1; };");
        wrong("m = @ 1 { 5 : 1; ^05 x : 1; };");
        wrong("m = @ 1 { 5 : 1; ^5");
        for (int k = 0; k < 11; k++) {
            wrong(choice(11, "^" + k + " : 1; };"));
        }
        // told twice with another n is told twice, in another choice it is not
        wrong("m = @ 1 { 1 : 1; 2 : 1; ^1 x : 1; };");
        right("m = @ @ 1 { 1 : 1; } { 1 : @ 1 { 1 : 1; }; 2 : @ 1 { 1 : 1; 2 : 1; }; };", 1);
    }

    private static void choiceNames() {
        Checks.sentence("n 0 .. 6, NAMES different; a 7th, a NAME bound twice in a row: at it");
        for (int n = 0; n <= 6; n++) {
            String text = "m = @ 1 { 2 " + row(n) + " : 1; };";
            Checks.dueUnits(text, "0 0 0 16 10 0 0 0 1 1 0 2 " + n + " 0 5 10 0 0 0 1");
        }
        wrong("m = @ 1 { 2 " + row(6) + " ^g : 1; };");
        wrong("m = @ 1 { 2 " + row(6) + " ^a : 1; };");
        twiceInARow("m = @ 1 { 1 %s : 1; };");
        right("m a = @ 1 { 1 a : @ 1 { 1 a : a; }; 2 a : a; };", 1);
    }

    private static void signsWithTwoTerms() {
        Checks.sentence("+ - * / % < = and ! are followed by two terms");
        for (char sign : "+-*/%<=!".toCharArray()) {
            Checks.dueUnits("m = " + sign + "1 2;", "0 0 0 17 " + (int) sign + " 10 0 0 0 1 10 0 0 0 2");
            wrong("m = " + sign + "^;");
            wrong("m = " + sign + " 1 ^;");
            wrong("m = " + sign + " 1 2 ^3;");
            wrong("m = (" + sign + " 1 ^);");
            wrong("m = (" + sign + " 1 2 ^);");
        }
    }

    private static void faultNumbers() {
        Checks.sentence("? k: a fault k (a NUMBER, 0 .. 99)");
        for (int k : new int[] {0, 1, 98, 99}) {
            Checks.dueUnits("m = ?" + k + ";", "0 0 0 18 " + k);
        }
        for (String k : new String[] {"100", "101", "255", "256", "2147483647"}) {
            wrong("m = ?^" + k + ";");
            wrong("m = (? ^" + k + " 1);");
        }
        wrong("m = ? ^m;");
        wrong("m = ? ^- 1;");
        wrong("m = ?^;");
    }

    /**
     * Each way in which a term is a part of another one: what is ahead of it and behind it; the
     * ^ stands ahead of the first part, which is as deep as all of them.
     */
    private static final String[][] AROUND = {
        {"(^", " 1)"}, {"(^1 ", ")"}, {"(^1 2 ", ")"}, {"(^1 2 3 4 5 6 ", ")"}, {"\\x.^", ""}, {"let x = ^", " in 1"},
        {"let x = ^1 in ", ""}, {"#1(^", ")"}, {"#1(^1,", ")"}, {"#1(^1,2,3,4,5,", ")"}, {"@ ^", "{_:1;}"},
        {"@^1{1:", ";}"}, {"@^1{1:1;2 x:", ";}"}, {"@^1{_:", ";}"}, {"+ ^", " 1"}, {"+ ^1 ", ""}, {"! ^", " 1"},
        {"! ^1 ", ""}, {"< ^1 ", ""}};

    private static void nesting() {
        Checks.sentence("Nesting of TERMS: 40 at most; a definition's TERM is at 1, parts are one deeper; 41 deep: at it");
        for (String[] around : AROUND) {
            String ahead = Checks.times(around[0].replace("^", ""), 39);
            String behind = Checks.times(around[1], 39);
            for (String leaf : new String[] {"m", "7", "#1", "? 9"}) {
                String text = "m = " + ahead + leaf + behind + ";";
                int answer = Checks.readText(new ClosureClasses(), text);
                Checks.due("read of " + text + " is at least 1", answer >= 1 ? 1 : answer, 1);
            }
            for (String leaf : new String[] {"m", "7", "#1", "? 9", "+ 1 1", "\\x. x", ";"}) {
                wrong("m = " + ahead + around[0] + leaf + around[1] + behind + ";");
            }
            wrong("m = " + ahead + around[0]);
        }
        // ways by turns: one deeper each
        String[] ways = {"(1 ", "\\x.", "let x = ", "#1(", "@ ", "+ "};
        StringBuilder mixed = new StringBuilder("m = ");
        for (int i = 0; i < 39; i++) {
            mixed.append(ways[i % ways.length]);
        }
        wrong(mixed + "#1(^1");
        wrong(mixed + "1^");
    }

    private static void nestingBeginsAnew() {
        Checks.sentence("a definition's TERM is at 1");
        String deep = Checks.times("+ ", 39) + "1" + Checks.times(" 1", 39);
        right("a = " + deep + "; b = " + deep + "; m = " + deep + ";", 3);
        // what is behind a deep part is as deep as that part was at its beginning
        String half = Checks.times("+ ", 38) + "1" + Checks.times(" 1", 38);
        right("m = + " + half + " " + half + ";", 1);
        right("m = @ " + half + "{ 1 : " + half + "; _ : " + half + "; };", 1);
    }

    private static void farRight() {
        Checks.sentence("Functions, lets and choices reach as far right as they can");
        Checks.dueUnits("m = (\\x. x 1);", "0 0 0 12 1 13 0 1 0 0 0 0 1", "1 0 1 11 0 0");
        Checks.dueUnits("m = \\x. + x 1;", "0 0 0 13 0 1", "1 0 1 17 43 11 0 0 10 0 0 0 1");
        Checks.dueUnits("m = + let x = 1 in + x 2 3;",
            "0 0 0 17 43 14 0 0 0 0 1 17 43 11 0 0 10 0 0 0 2 10 0 0 0 3");
        wrong("m = \\x. x ^1;");
        wrong("m = let x = 1 in x ^1;");
        wrong("m = @ 1 { _ : 1; } ^1;");
        wrong("m = (\\x. x^);");
    }

    private static final String STARTS = "term";

    /** What stands ahead, and behind it the kinds of pieces that can follow there. */
    private static final String[][] CAN_FOLLOW = {
        {"", "name"}, {"m", "name", "="}, {"m a", "name", "="}, {"m =", STARTS}, {"m = 1", ";"}, {"m = m", ";"},
        {"m = 1;", "name", "end"}, {"m = (", STARTS}, {"m = (1", STARTS}, {"m = (1 2", STARTS, ")"},
        {"m = (1 2)", ";"}, {"m = (1 2 3 4 5 6 7", ")"}, {"m = \\", "name"}, {"m = \\x", "name", "."},
        {"m = \\a b c d e f", "."}, {"m = \\x .", STARTS}, {"m = \\x . x", ";"}, {"m = let", "name"},
        {"m = let x", "="}, {"m = let x =", STARTS}, {"m = let x = 1", "in"}, {"m = let x = 1 in", STARTS},
        {"m = let x = 1 in 1", ";"}, {"m = #", "number"}, {"m = #1", "(", ";"}, {"m = #1(", STARTS},
        {"m = #1(1", ",", ")"}, {"m = #1(1,", STARTS}, {"m = #1(1,2,3,4,5", ",", ")"}, {"m = #1(1)", ";"},
        {"m = @", STARTS}, {"m = @ 1", "{"}, {"m = @ 1 {", "number", "_"}, {"m = @ 1 { 1", "name", ":"},
        {"m = @ 1 { 1 a", "name", ":"}, {"m = @ 1 { 1 a b c d e f", ":"}, {"m = @ 1 { _", ":"},
        {"m = @ 1 { 1 :", STARTS}, {"m = @ 1 { _ :", STARTS}, {"m = @ 1 { 1 : 1", ";"},
        {"m = @ 1 { 1 : 1;", "number", "_", "}"}, {"m = @ 1 { _ : 1;", "}"}, {"m = @ 1 { _ : 1; }", ";"},
        {"m = +", STARTS}, {"m = + 1", STARTS}, {"m = + 1 1", ";"}, {"m = ! 1", STARTS}, {"m = ?", "number"},
        {"m = ? 1", ";"}, {"m = (1 \\x. 1", STARTS, ")"}, {"m = (1 #1", STARTS, ")", "("},
        {"m = (1 let x = 1 in x", STARTS, ")"}, {"m = (1 + 1", STARTS}, {"m = (1 + 1 1", STARTS, ")"},
        {"m = #1(let x = 1 in x", ",", ")"}, {"m = @ \\x. 1", "{"}, {"m = let x = \\y. 1", "in"},
        {"m = @ 1 { 1 : @ 1 { _ : 1; }", ";"}};

    private static void piecesThatCanFollow() {
        Checks.sentence("A TEXT is WRONG at the first piece that can't be there (its place)");
        List<String> pieces = new ArrayList<>(List.of("zz", "7", "let", "in", "of", "abcd", "2147483648", "$", "A"));
        for (char sign : SIGNS.toCharArray()) {
            pieces.add("" + sign);
        }
        for (String[] row : CAN_FOLLOW) {
            for (String piece : pieces) {
                if (canFollow(row, piece)) {
                    goesBehind(row[0] + "\n " + piece);
                } else {
                    wrong(row[0] + "\n ^" + piece);
                    wrong(row[0] + "\n ^" + piece + " 1; $");
                }
            }
        }
    }

    private static boolean canFollow(String[] row, String piece) {
        for (int i = 1; i < row.length; i++) {
            boolean term = List.of("zz", "7", "let").contains(piece) || "(\\#?!+-*/%<=@".contains(piece);
            if (row[i].equals(piece) || row[i].equals("name") && piece.equals("zz")
                || row[i].equals("number") && piece.equals("7") || row[i].equals(STARTS) && term) {
                return true;
            }
        }
        return false;
    }

    /** The text is a whole program, or more must come behind its last piece. */
    private static void goesBehind(String text) {
        int answer = Checks.readText(new ClosureClasses(), text);
        int due = answer >= 1 ? answer : -1 - text.length();
        Checks.due("read of " + text, answer, due);
    }

    private static void moreMustCome() {
        Checks.sentence("the length, when more must come");
        for (String[] row : CAN_FOLLOW) {
            boolean whole = List.of(row).contains("end");
            for (String blanks : new String[] {"", " ", "\n \n"}) {
                String text = row[0] + blanks;
                Checks.due("read of " + text, Checks.readText(new ClosureClasses(), text),
                    whole ? 1 : -1 - text.length());
            }
        }
        // what is behind the first n bytes does not count
        ClosureClasses x = new ClosureClasses();
        Checks.feedText(x, "m = 12;");
        Checks.due("read(6)", x.read(6), -1 - 6);
        Checks.feedText(x, "m = 1; $");
        Checks.due("read(6)", x.read(6), 1);
        Checks.feedText(x, "m = 21474836470;");
        Checks.due("read(14)", x.read(14), -1 - 14);
        Checks.feedText(x, "abcd = 1;");
        Checks.due("read(3)", x.read(3), -1 - 3);
    }

    private static void firstOfTwo() {
        Checks.sentence("at the first piece that can't be there");
        wrong("m = ^; n = ;");
        wrong("m = 1 ^2; $");
        wrong("m = ^$; m = 1;");
        wrong("m = 1; ^m = abcd;");
        wrong("m a ^a = 2147483648;");
        wrong("m = ? ^100 #1000;");
        wrong("m = a; n = ^abcd;");
        wrong("m = a; n = 1 ^1;");
        wrong("m = a; ^m = 1;");
        wrong("m = a; n = 1^");
    }

    private static void namesThatMeanNothing() {
        Checks.sentence("When all is read: the first NAME, by places, that means nothing");
        wrong("m = ^a;");
        wrong("m = + ^a b;");
        wrong("m = + b ^a; b = c; c = d; d = 1;");
        wrong("m = n; n = o; o = (m ^p q);");
        right("m = n; n = o; o = (m n o);", 3);
        wrong("f a = a; m = ^a;");
        wrong("m = ^a; f a = a;");
        wrong("m = (\\x. x ^x);");
        wrong("m = (let x = 1 in x ^x);");
        wrong("m = @ ^x { 1 x : x; };");
        wrong("m = @ 1 { 1 x : x; 2 y : ^x; };");
        wrong("m = @ 1 { 1 x : x; _ : ^x; };");
        wrong("m = #1(\\x. x, ^x);");
        wrong("m = let x = ^y in let y = x in y;");
        wrong("m = (1 (2 #3(\\x. let y = @ x { _ : ^z; } in y)));");
        right("m = let x = 1 in let y = x in (x \\z. (x y z));", 2);
    }
}
