import java.util.Random;

/**
 * Texts of random pieces and programs with random faults: no call throws, and what stands ahead
 * of the place at which a text is WRONG could be the beginning of a program.
 */
public final class FuzzTest {
    private static final String[] PIECES = {"m", "a", "b", "ab", "abc", "let", "in", "of", "0", "1", "7", "999",
        "2147483647", "2147483648", "(", ")", "{", "}", "\\", ".", "=", ";", ":", ",", "#", "?", "!", "+", "-",
        "*", "/", "%", "<", "_", "@", " ", "\n", "\t", "A", "abcd", "#1(", "let a=", "@a{", "_:1;}", "m=", "\\a."};

    public static void main(String[] args) {
        Random random = new Random(7);
        for (int i = 0; i < 20000; i++) {
            check(soup(random), random);
        }
        for (int seed = 0; seed < 20000; seed++) {
            String text = Oracle.textOf(new Generator(seed).program());
            if (text.length() <= 3900) {
                check(withFaults(text, random), random);
            }
        }
        anyCalls(random);
        Checks.finish();
    }

    private static String soup(Random random) {
        StringBuilder text = new StringBuilder(random.nextInt(3) == 0 ? "" : "m=");
        for (int n = random.nextInt(30); n > 0; n--) {
            text.append(PIECES[random.nextInt(PIECES.length)]);
        }
        return text.toString();
    }

    private static String withFaults(String text, Random random) {
        StringBuilder changed = new StringBuilder(text);
        for (int n = 1 + random.nextInt(2); n > 0; n--) {
            int at = random.nextInt(changed.length());
            String piece = PIECES[random.nextInt(PIECES.length)];
            switch (random.nextInt(4)) {
                case 0:
                    changed.deleteCharAt(at);
                    break;
                case 1:
                    changed.insert(at, piece);
                    break;
                case 2:
                    changed.replace(at, at + 1, piece);
                    break;
                default:
                    changed.setLength(at + 1);
            }
        }
        return changed.toString();
    }

    private static void check(String text, Random random) {
        ClosureClasses x = new ClosureClasses();
        int answer = Checks.readText(x, text);
        boolean sound = answer >= 1 || answer <= -1 && answer >= -1 - text.length();
        Checks.due("read of " + text, sound ? 1 : answer, 1);
        if (answer >= 1) {
            int outcome = x.run(random.nextInt(300));
            boolean known = outcome >= -7 && outcome <= 2 || outcome >= 100 && outcome <= 199 || outcome == -1001;
            Checks.due("run of " + text, known ? 1 : outcome, 1);
            return;
        }
        // ahead of the wrong piece there is a program, or one whose names mean nothing, or a part of one
        int place = -1 - answer;
        int ahead = Checks.readText(x, text.substring(0, place));
        boolean nameInIt = ahead < 0 && Character.isLowerCase((text + " ").charAt(-1 - ahead));
        Checks.due("what is ahead of " + place + " in " + text,
            ahead >= 1 || ahead == -1 - place || nameInIt ? 1 : ahead, 1);
    }

    private static void anyCalls(Random random) {
        for (int i = 0; i < 200; i++) {
            ClosureClasses x = new ClosureClasses();
            if (i % 2 == 0) {
                Checks.readText(x, "m = #1(m, + 1 2, l, \\x. x); l = #1(1, l);");
            }
            for (int call = 0; call < 480; call++) {
                anyCall(x, random);
            }
            x.clear();
            Checks.due("cleared", x.size(0), ClosureClasses.STATE);
        }
    }

    private static void anyCall(ClosureClasses x, Random random) {
        int[] numbers = {Integer.MIN_VALUE, -1, 0, 1, 2, 3, 5, 6, 20, 4000, 4001, 20000, 20001, Integer.MAX_VALUE};
        int n = numbers[random.nextInt(numbers.length)];
        int k = numbers[random.nextInt(numbers.length)];
        switch (random.nextInt(8)) {
            case 0:
                x.feed(random.nextInt(), n, k, random.nextInt(), 0x20202020);
                break;
            case 1:
                x.read(n);
                break;
            case 2:
                x.size(n);
                break;
            case 3:
                x.byteAt(n, k);
                break;
            case 4:
                x.run(n);
                break;
            case 5:
                x.told(n);
                break;
            default:
                x.part(n);
        }
    }
}
