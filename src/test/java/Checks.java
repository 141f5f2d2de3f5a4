/** What all tests of the project use: texts on the tape, and answers that are due. */
final class Checks {
    private static final int MOST_SHOWN = 100;

    private static int wrong = 0;
    private static int made = 0;
    private static String words = "";

    private Checks() {
    }

    /** The words of the document that the checks from here on are for; told with each that fails. */
    static void sentence(String ofDocument) {
        words = "[" + ofDocument + "] ";
    }

    static void due(String what, long got, long want) {
        due(what, Long.toString(got), Long.toString(want));
    }

    static void due(String what, String got, String want) {
        made++;
        if (!got.equals(want)) {
            wrong++;
            if (wrong <= MOST_SHOWN) {
                System.out.println(words + what + ": answered " + got + ", due is " + want);
            }
        }
    }

    static void finish() {
        System.out.println(made + " answers, " + wrong + " of them not as due");
        if (wrong != 0 || made == 0) {
            System.exit(1);
        }
    }

    /** Puts the text on the tape, filled up with blanks. */
    static void feedText(ClosureClasses x, String text) {
        for (int at = 0; at < text.length(); at += 20) {
            int[] numbers = new int[5];
            for (int i = 0; i < 20; i++) {
                int c = at + i < text.length() ? text.charAt(at + i) & 255 : 32;
                numbers[i / 4] = (numbers[i / 4] << 8) | c;
            }
            x.feed(numbers[0], numbers[1], numbers[2], numbers[3], numbers[4]);
        }
    }

    static int readText(ClosureClasses x, String text) {
        feedText(x, text);
        return x.read(text.length());
    }

    /** A new object with this program; the text must be right. */
    static ClosureClasses program(String text) {
        ClosureClasses x = new ClosureClasses();
        int answer = readText(x, text);
        due("read of " + text + " is at least 1", answer >= 1 ? 1 : answer, 1);
        return x;
    }

    /** The text without its ^ is WRONG where that stands. */
    static void wrong(String marked) {
        int place = marked.indexOf('^');
        String text = marked.substring(0, place) + marked.substring(place + 1);
        due("read of " + text, readText(new ClosureClasses(), text), -1 - place);
    }

    static void right(String text, int units) {
        due("read of " + text, readText(new ClosureClasses(), text), units);
    }

    /** The text has these units, each with its bytes joined by blanks, and no more. */
    static void dueUnits(String text, String... units) {
        ClosureClasses x = new ClosureClasses();
        due("units of " + text, readText(x, text), units.length);
        for (int u = 0; u < units.length; u++) {
            String what = "unit " + u + " of " + text;
            due("size of " + what, x.size(u), units[u].split(" ").length);
            due(what, bytesOf(x, u), units[u]);
        }
        due("one unit more of " + text, x.size(units.length), ClosureClasses.BAD);
    }

    static String bytesOf(ClosureClasses x, int unit) {
        StringBuilder bytes = new StringBuilder();
        int size = x.size(unit);
        for (int i = 0; i < size; i++) {
            bytes.append(i == 0 ? "" : " ").append(x.byteAt(unit, i));
        }
        return bytes.toString();
    }

    /** told(0) to told(5). */
    static String toldAll(ClosureClasses x) {
        StringBuilder all = new StringBuilder();
        for (int what = 0; what <= 5; what++) {
            all.append(what == 0 ? "" : " ").append(x.told(what));
        }
        return all.toString();
    }

    /** The answer of a run and, behind a colon, all that is told of it. */
    static void dueRun(String text, int limit, String want) {
        ClosureClasses x = program(text);
        int answer = x.run(limit);
        due("run(" + limit + ") of " + text, answer + ": " + toldAll(x), want);
    }

    static String times(String text, int count) {
        return text.repeat(count);
    }
}
