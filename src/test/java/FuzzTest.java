import java.util.Random;

/**
 * Texts of random pieces, programs with random faults, and texts that grow by pieces that can be
 * there: read() answers as the text oracle does, and no call throws.
 */
public final class FuzzTest {
    private static final String[] PIECES = {"m", "a", "b", "ab", "abc", "let", "in", "of", "0", "1", "7", "99", "100", "999",
        "1000", "2147483647", "2147483648", "(", ")", "{", "}", "\\", ".", "=", ";", ":", ",", "#", "?", "!", "+", "-",
        "*", "/", "%", "<", "_", "@", " ", "\n", "\t", "A", "abcd", "#1(", "let a=", "@a{", "_:1;}", "m=", "\\a."};

    private static final String[] FAVOURITES = {"~=1;", "~ =", "~", "\\~.", "let ~ =", "1 in", "(", "1", "#1(", ",1", "@1{",
        "^:1;", "^", "+", "1:", "(1", "#1(1,", "@", "let ~ = 1 in", "? ^", "#2"};

    private static final String[] BEGINNINGS = {"", "m = ", "m = @ 1 { ", "m = ( ", "m = #1( ", "m = ? "};

    public static void main(String[] args) {
        Random random = new Random(7);
        for (int i = 0; i < 20000; i++) {
            check(soup(random), random);
        }
        for (int seed = 0; seed < 20000; seed++) {
            String text = Oracle.textOf(new Generator(seed).program());
            if (text.length() <= 3900) {
                check(withFaults(text, random), random);
            }
        }
        for (int i = 0; i < 400; i++) {
            check(grown(random, 20 + i / 2), random);
        }
        anyCalls(random);
        Checks.finish();
    }

    private static String soup(Random random) {
        StringBuilder text = new StringBuilder(random.nextInt(3) == 0 ? "" : "m=");
        for (int n = random.nextInt(30); n > 0; n--) {
            text.append(PIECES[random.nextInt(PIECES.length)]);
        }
        return text.toString();
    }

    private static String withFaults(String text, Random random) {
        StringBuilder changed = new StringBuilder(text);
        for (int n = 1 + random.nextInt(2); n > 0; n--) {
            int at = random.nextInt(changed.length());
            String piece = PIECES[random.nextInt(PIECES.length)];
            switch (random.nextInt(4)) {
                case 0:
                    changed.deleteCharAt(at);
                    break;
                case 1:
                    changed.insert(at, piece);
                    break;
                case 2:
                    changed.replace(at, at + 1, piece);
                    break;
                default:
                    changed.setLength(at + 1);
            }
        }
        return changed.toString();
    }

    /** Grows by pieces that can be there, most of one kind, to come to its bound; those that can't be are tried. */
    private static String grown(Random random, int pieces) {
        StringBuilder text = new StringBuilder(BEGINNINGS[random.nextInt(BEGINNINGS.length)]);
        String favourite = FAVOURITES[random.nextInt(FAVOURITES.length)];
        for (int n = 0; n < pieces; n++) {
            boolean favoured = random.nextInt(4) > 0;
            int before = text.length();
            text.append(favoured ? filled(favourite, random) : PIECES[random.nextInt(PIECES.length)]).append(' ');
            check(text.toString(), random);
            int place = -1 - TextOracle.read(text.toString());
            if (place >= before && place < text.length()) {
                text.setLength(before);
            }
        }
        return text.toString();
    }

    /** A word for each ~, a number for each ^. */
    private static String filled(String favourite, Random random) {
        String word = "" + (char) ('a' + random.nextInt(9)) + (char) ('a' + random.nextInt(9));
        return favourite.replace("~", word).replace("^", "" + random.nextInt(16));
    }

    private static void check(String text, Random random) {
        ClosureClasses x = new ClosureClasses();
        int answer = Checks.readText(x, text);
        Checks.due("read of " + text, answer, TextOracle.read(text));
        if (answer >= 1) {
            int outcome = x.run(random.nextInt(300));
            boolean known = outcome >= -7 && outcome <= 2 || outcome >= 100 && outcome <= 199 || outcome == -1001;
            Checks.due("run of " + text, known ? 1 : outcome, 1);
        }
    }

    private static void anyCalls(Random random) {
        for (int i = 0; i < 200; i++) {
            ClosureClasses x = new ClosureClasses();
            if (i % 2 == 0) {
                Checks.readText(x, "m = #1(m, + 1 2, l, \\x. x); l = #1(1, l);");
            }
            for (int call = 0; call < 480; call++) {
                anyCall(x, random);
            }
            x.clear();
            Checks.due("cleared", x.size(0), ClosureClasses.STATE);
        }
    }

    private static void anyCall(ClosureClasses x, Random random) {
        int[] numbers = {Integer.MIN_VALUE, -1, 0, 1, 2, 3, 5, 6, 20, 4000, 4001, 20000, 20001, Integer.MAX_VALUE};
        int n = numbers[random.nextInt(numbers.length)];
        int k = numbers[random.nextInt(numbers.length)];
        switch (random.nextInt(8)) {
            case 0:
                x.feed(random.nextInt(), n, k, random.nextInt(), 0x20202020);
                break;
            case 1:
                x.read(n);
                break;
            case 2:
                x.size(n);
                break;
            case 3:
                x.byteAt(n, k);
                break;
            case 4:
                x.run(n);
                break;
            case 5:
                x.told(n);
                break;
            default:
                x.part(n);
        }
    }
}
