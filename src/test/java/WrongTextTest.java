/** Promise 3: which texts are programs, and where the others are WRONG. */
public final class WrongTextTest {
    public static void main(String[] args) {
        pieces();
        definitions();
        calls();
        functionsAndLets();
        constructors();
        choices();
        operators();
        nesting();
        namesThatMeanNothing();
        Checks.finish();
    }

    private static void wrong(String marked) {
        Checks.wrong(marked);
    }

    private static void right(String text, int units) {
        Checks.right(text, units);
    }

    private static void pieces() {
        right("m=1;", 1);
        right(" \n m\n=\n1 ; \n", 1);
        right("abc=1;m=abc;", 2);
        right("m = 2147483647;", 1);
        right("m = 000000000000000000002147483647;", 1);
        right("m = -5 3;", 1);
        right("le = 1; ofa = 1; i = 1;", 3);
        right("a=1;b=+1a;", 2);
        wrong("^");
        wrong("   ^");
        wrong("^abcd = 1;");
        wrong("m = ^letx = 1 in x;");
        wrong("m = ^2147483648;");
        wrong("m = ^99999999999999999999999999999999;");
        wrong("^M = 1;");
        wrong("m = ^A;");
        wrong("m = ^$ 1;");
        wrong("m = ^\t1;");
        wrong("m = 1;^\r");
        wrong("m = ^\u0000;");
        wrong("m = 1^\u00ff;");
        wrong("m = ^\u0005;");
        wrong("m = ^[1;");
        wrong("m = ^> 1 2;");
        wrong("m ^of = 1;");
        wrong("m = ^of;");
        wrong("m = ^in;");
    }

    private static void definitions() {
        StringBuilder forty = new StringBuilder();
        for (int i = 0; i < 40; i++) {
            forty.append('a').append((char) ('a' + i % 26)).append((char) ('a' + i / 26)).append("=1;");
        }
        right(forty.toString(), 40);
        wrong(forty + " ^m = 1;");
        wrong(forty + "^;");
        right("m a b c d e f = 1;", 1);
        right("m m = m;", 1);
        wrong("m a b c d e f ^g = 1;");
        wrong("m a b ^a = 1;");
        wrong("m = 1; ^m = 2;");
        wrong("m = 1; n = 2; ^n x = 2;");
        wrong("^= 1;");
        wrong("^1 = 1;");
        wrong("^let = 1;");
        wrong("^of = 1;");
        wrong("^;");
        wrong("m ^1 = 1;");
        wrong("m ^let = 1;");
        wrong("m^");
        wrong("m a ^");
        wrong("m a =^");
        wrong("m = ^;");
        wrong("m = 1^");
        wrong("m = 1   ^");
        wrong("m = 1 ^2;");
        wrong("m = 1;^;");
        wrong("m = 1; n^");
    }

    private static void calls() {
        right("m = (1 2);", 1);
        right("m = (1 2 3 4 5 6 7);", 1);
        wrong("m = (1 2 3 4 5 6 7 ^8);");
        wrong("m = (1 2 3 4 5 6 7 ^(8 9));");
        wrong("m = (^);");
        wrong("m = (1^);");
        wrong("m = (1 2^;");
        wrong("m = (1 2^");
        wrong("m = (1 2 ^, 3);");
        wrong("m = ^);");
    }

    private static void functionsAndLets() {
        right("m = \\a b c d e f. a;", 2);
        wrong("m = \\a b c d e f ^g. a;");
        wrong("m = \\^. 1;");
        wrong("m = \\x ^x. 1;");
        wrong("m = \\x ^1. 1;");
        wrong("m = \\x y^;");
        wrong("m = \\x. ^;");
        wrong("m = \\x.^");
        right("m = \\x. \\x. x;", 3);
        right("m = let x = 1 in let x = 2 in x;", 1);
        wrong("m = let ^in = 3 in 4;");
        wrong("m = let ^1 = 3 in 4;");
        wrong("m = let ^let = 3 in 4;");
        wrong("m = let x ^3 in 4;");
        wrong("m = let x = ^in 4;");
        wrong("m = let x = 3 ^4;");
        wrong("m = let x = 3 ^; in 4;");
        wrong("m = let x = 3 in ^;");
        wrong("m = let x = 3 in 4 ^5;");
    }

    private static void constructors() {
        right("m = #999;", 1);
        right("m = #0(1,2,3,4,5,6);", 1);
        right("m = (1 #1 #2(3) #4);", 4);
        wrong("m = #^1000;");
        wrong("m = #^x;");
        wrong("m = #^;");
        wrong("m = #^(1);");
        wrong("m = #1(^);");
        wrong("m = #1(1 ^2);");
        wrong("m = #1(1,^);");
        wrong("m = #1(^,1);");
        wrong("m = #1(1^;");
        wrong("m = #1(1,2,3,4,5,6,^7);");
        wrong("m = #1(1,2,3,4,5,6,^);");
        wrong("m = (1 #1 (2 ^3));");
    }

    private static void choices() {
        StringBuilder twelve = new StringBuilder("m = @ 1 {");
        for (int i = 0; i < 12; i++) {
            twelve.append(i).append(":1;");
        }
        right(twelve + "};", 1);
        wrong(twelve + "^12 : 1; };");
        wrong(twelve + "^_ : 1; };");
        right("m = @ 1 { _ : 1; };", 1);
        right("m = @ 1 { 1 : 1; _ : 1; };", 1);
        right("m = @ 1 { 999 a b c d e f : a; };", 1);
        wrong("m = @ 1 { 1 a b c d e f ^g : a; };");
        wrong("m = @ 1 { 1 a ^a : a; };");
        wrong("m = @ 1 { ^1000 : a; };");
        wrong("m = @ 1 ^;");
        wrong("m = @ ^{ 1 : 1; };");
        wrong("m = @ 1 { ^};");
        wrong("m = @ 1 { ^x : 1; };");
        wrong("m = @ 1 { 1 : 1 ^};");
        wrong("m = @ 1 { 1 : 1; ^;};");
        wrong("m = @ 1 { 1 ^2 : 1; };");
        wrong("m = @ 1 { 1 x^; };");
        wrong("m = @ 1 { 1 : ^; };");
        wrong("m = @ 1 { 1 : 1; ^1 : 2; };");
        wrong("m = @ 1 { 7 : 1; 8 : 1; ^007 : 2; };");
        wrong("m = @ 1 { _ : 1; ^2 : 2; };");
        wrong("m = @ 1 { _ : 1; ^_ : 2; };");
        wrong("m = @ 1 { _ ^x : 1; };");
        wrong("m = @ 1 { 1 : 1;^");
    }

    private static void operators() {
        right("m = + - * / % < = ! 1 2 3 4 5 6 7 8 9;", 1);
        right("m = ? 99;", 1);
        right("m = ? 0;", 1);
        wrong("m = + ^;");
        wrong("m = + 1 ^;");
        wrong("m = + 1 2 ^3;");
        wrong("m = ? ^100;");
        wrong("m = ? ^x;");
        wrong("m = ?^");
        wrong("m = ^. 1;");
        wrong("m = ^: 1;");
        wrong("m = ^_;");
        wrong("m = ^};");
    }

    private static void nesting() {
        String lets = Checks.times("let x = 1 in ", 39);
        right("m = " + lets + "x;", 1);
        wrong("m = " + lets + "let x = ^1 in x;");
        String sums = Checks.times("+ 1 ", 39);
        right("m = " + sums + "1;", 1);
        wrong("m = " + sums + "+ ^1 1;");
        String functions = Checks.times("\\x.", 39);
        right("m = " + functions + "x;", 40);
        wrong("m = " + functions + "\\x.^x;");
        String calls = Checks.times("(1 ", 39);
        right("m = " + calls + "1" + Checks.times(")", 39) + ";", 39);
        wrong("m = " + calls + "(^1 1)" + Checks.times(")", 39) + ";");
        String parts = Checks.times("#1(", 39);
        right("m = " + parts + "#1" + Checks.times(")", 39) + ";", 40);
        wrong("m = " + parts + "#1(^1)" + Checks.times(")", 39) + ";");
        String later = Checks.times("(1 1 ", 39);
        right("m = " + later + "1" + Checks.times(")", 39) + ";", 39);
        wrong("m = " + later + "(^1 1)" + Checks.times(")", 39) + ";");
        String laterParts = Checks.times("#1(1,", 39);
        right("m = " + laterParts + "1" + Checks.times(")", 39) + ";", 39);
        wrong("m = " + laterParts + "#1(^1)" + Checks.times(")", 39) + ";");
        String heads = Checks.times("@ ", 39);
        right("m = " + heads + "1" + Checks.times("{_:1;}", 39) + ";", 1);
        wrong("m = " + heads + "@ ^1" + Checks.times("{_:1;}", 40) + ";");
        String bodies = Checks.times("@ 1 { 1 : ", 39);
        right("m = " + bodies + "1" + Checks.times(";}", 39) + ";", 1);
        wrong("m = " + bodies + "+ ^1 1" + Checks.times(";}", 39) + ";");
    }

    private static void namesThatMeanNothing() {
        right("m = a; a = b; b = m;", 3);
        wrong("m = ^a;");
        wrong("m = + b ^a; b = c; d = e;");
        wrong("m = \\x. x; n = ^x;");
        wrong("m = + let x = 1 in x ^x;");
        wrong("m = @ 1 { 1 x : x; 2 : ^x; };");
        wrong("m = @ ^x { 1 x : x; };");
        wrong("f a = a; m = ^a;");
        wrong("m = (1 (2 \\x. (x ^y)));");
        right("m = let x = x in x;", 2);
        wrong("m = a; n = ^;");
        wrong("m = a^");
    }
}
