import java.util.List;
import java.util.Random;

/** Random calls in any order, 512 on each object, each answer compared with the model's. */
public final class ModelTest {
    private static final int OBJECTS = Integer.getInteger("objects", 150);
    private static final int MOST_CALLS = 512;

    private final Random random;
    private final ClosureClasses object = new ClosureClasses();
    private final Model model = new Model();
    private final StringBuilder done = new StringBuilder();
    private int calls;

    private ModelTest(long seed) {
        random = new Random(seed);
    }

    public static void main(String[] args) throws InterruptedException {
        // the oracle's tail calls are Java calls
        Thread thread = new Thread(null, ModelTest::compareAll, "compare", 1L << 30);
        thread.start();
        thread.join();
        Checks.finish();
    }

    private static void compareAll() {
        for (int seed = 0; seed < OBJECTS; seed++) {
            ModelTest test = new ModelTest(seed);
            while (test.calls < MOST_CALLS) {
                test.anyCall();
            }
        }
    }

    private void due(String call, int got, int want) {
        calls++;
        done.append(' ').append(call);
        Checks.due(call + " behind " + done, got, want);
    }

    private void anyCall() {
        int kind = random.nextInt(100);
        if (kind < 8) {
            feedProgram();
        } else if (kind < 14) {
            read(random.nextInt(4) > 0 ? model.onTape() : near(model.onTape()));
        } else if (kind < 22) {
            int limit = random.nextInt(3) > 0 ? random.nextInt(60) : near(20000);
            due("run(" + limit + ")", object.run(limit), model.run(limit));
        } else if (kind < 50) {
            int what = random.nextInt(12) > 0 ? random.nextInt(6) : near(6);
            due("told(" + what + ")", object.told(what), model.told(what));
        } else if (kind < 70) {
            int i = random.nextInt(8) > 0 ? random.nextInt(2) : near(6);
            due("part(" + i + ")", object.part(i), model.part(i));
        } else if (kind < 80) {
            int u = near(model.units());
            due("size(" + u + ")", object.size(u), model.size(u));
        } else if (kind < 98) {
            int u = near(model.units());
            int i = near(Math.max(0, model.size(u)));
            due("byteAt(" + u + ", " + i + ")", object.byteAt(u, i), model.byteAt(u, i));
        } else {
            clear();
        }
    }

    /** Most often from 0 to the bound, now and then beyond either. */
    private int near(int bound) {
        int[] beyond = {Integer.MIN_VALUE, -1, bound - 1, bound, bound + 1, Integer.MAX_VALUE};
        return random.nextInt(4) == 0 ? beyond[random.nextInt(beyond.length)] : random.nextInt(bound + 1);
    }

    private void read(int n) {
        due("read(" + n + ")", object.read(n), model.read(n));
    }

    private void clear() {
        object.clear();
        model.clear();
        calls++;
        done.append(" clear()");
    }

    private void feedProgram() {
        List<Oracle.Definition> definitions = new Generator(random.nextInt(100000)).program();
        String text = Oracle.textOf(definitions);
        // a constructor alone takes a call behind it for its parts: that text is another program's
        if (text.length() > 300 || text.matches("(?s).*#\\d+ \\(.*")) {
            return;
        }
        model.know(definitions);
        for (int at = 0; at < text.length() && calls < MOST_CALLS; at += 20) {
            String twenty = (text + " ".repeat(20)).substring(at, at + 20);
            int[] five = new int[5];
            for (int i = 0; i < 20; i++) {
                five[i / 4] = (five[i / 4] << 8) | twenty.charAt(i);
            }
            due("feed(" + twenty + ")", object.feed(five[0], five[1], five[2], five[3], five[4]), model.feed(twenty));
        }
        if (random.nextInt(3) > 0 && calls < MOST_CALLS) {
            read(model.onTape());
        }
    }
}
