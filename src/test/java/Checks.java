/** What all tests of the project use: texts on the tape, and answers that are due. */
final class Checks {
    private static int wrong = 0;
    private static int made = 0;

    private Checks() {
    }

    static void due(String what, long got, long want) {
        made++;
        if (got != want) {
            wrong++;
            System.out.println(what + ": answered " + got + ", due is " + want);
        }
    }

    static void due(String what, String got, String want) {
        made++;
        if (!got.equals(want)) {
            wrong++;
            System.out.println(what + ": answered " + got + ", due is " + want);
        }
    }

    static void finish() {
        System.out.println(made + " answers, " + wrong + " of them not as due");
        if (wrong != 0 || made == 0) {
            System.exit(1);
        }
    }

    /** Puts the text on the tape, filled up with blanks. */
    static void feedText(ClosureClasses x, String text) {
        for (int at = 0; at < text.length(); at += 20) {
            int[] numbers = new int[5];
            for (int i = 0; i < 20; i++) {
                int c = at + i < text.length() ? text.charAt(at + i) & 255 : 32;
                numbers[i / 4] = (numbers[i / 4] << 8) | c;
            }
            x.feed(numbers[0], numbers[1], numbers[2], numbers[3], numbers[4]);
        }
    }

    static int readText(ClosureClasses x, String text) {
        feedText(x, text);
        return x.read(text.length());
    }

    /** A new object with this program; the text must be right. */
    static ClosureClasses program(String text) {
        ClosureClasses x = new ClosureClasses();
        int answer = readText(x, text);
        due("read of " + text + " is at least 1", answer >= 1 ? 1 : answer, 1);
        return x;
    }

    static String bytesOf(ClosureClasses x, int unit) {
        StringBuilder bytes = new StringBuilder();
        for (int i = 0; i < x.size(unit); i++) {
            bytes.append(i == 0 ? "" : " ").append(x.byteAt(unit, i));
        }
        return bytes.toString();
    }

    /** told(0) to told(5). */
    static String toldAll(ClosureClasses x) {
        StringBuilder all = new StringBuilder();
        for (int what = 0; what <= 5; what++) {
            all.append(what == 0 ? "" : " ").append(x.told(what));
        }
        return all.toString();
    }

    /** The answer of a run and, behind a colon, all that is told of it. */
    static void dueRun(String text, int limit, String want) {
        ClosureClasses x = program(text);
        int answer = x.run(limit);
        due("run(" + limit + ") of " + text, answer + ": " + toldAll(x), want);
    }

    static String times(String text, int count) {
        return text.repeat(count);
    }
}
