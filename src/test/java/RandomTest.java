import java.util.List;
import java.util.Map;
import java.util.Random;
import java.util.TreeMap;

/** Random programs, their bytes and runs compared with the oracle's. */
public final class RandomTest {
    private static final int PROGRAMS = Integer.getInteger("programs", 10000);
    private static final Map<Integer, Integer> OUTCOMES = new TreeMap<>();

    public static void main(String[] args) throws InterruptedException {
        // the oracle's tail calls are Java calls
        Thread thread = new Thread(null, RandomTest::compareAll, "compare", 1L << 30);
        thread.start();
        thread.join();
        System.out.println("outcomes: " + OUTCOMES);
        for (int outcome = -7; outcome <= 2; outcome++) {
            Checks.due("some run answers " + outcome, OUTCOMES.containsKey(outcome) ? 1 : 0, 1);
        }
        Checks.finish();
    }

    private static void compareAll() {
        for (int seed = 0; seed < PROGRAMS; seed++) {
            List<Oracle.Definition> definitions = new Generator(seed).program();
            String text = Oracle.textOf(definitions);
            // a constructor alone, told with a blank here, takes a call behind it for its parts
            if (text.length() <= 4000 && !text.matches("(?s).*#\\d+ \\(.*")) {
                compare(text, definitions, new Random(seed));
            }
        }
    }

    private static void compare(String text, List<Oracle.Definition> definitions, Random random) {
        ClosureClasses x = new ClosureClasses();
        int units = Checks.readText(x, text);
        List<String> due = Oracle.unitsOf(definitions);
        Checks.due("units of " + text, units, due.size());
        for (int u = 0; u < units && u < due.size(); u++) {
            // no object is used for more calls than the document promises
            ClosureClasses y = new ClosureClasses();
            Checks.readText(y, text);
            Checks.due("unit " + u + " of " + text, Checks.bytesOf(y, u), due.get(u));
        }
        Oracle oracle = new Oracle(definitions);
        for (int i = 0; i < 3; i++) {
            int limit = random.nextInt(random.nextBoolean() ? 60 : 20001);
            compareRun(text, x, oracle, limit, random);
        }
    }

    private static void compareRun(String text, ClosureClasses x, Oracle oracle, int limit, Random random) {
        int outcome = oracle.run(limit);
        OUTCOMES.merge(Math.min(outcome, 100), 1, Integer::sum);
        Checks.due("run(" + limit + ") of " + text, x.run(limit), outcome);
        Checks.due("told of run(" + limit + ") of " + text, Checks.toldAll(x), oracle.told());
        for (int i = 0; i < 5 && outcome == 2; i++) {
            int part = random.nextInt(2);
            outcome = oracle.part(part);
            Checks.due("part(" + part + ") in " + text, x.part(part), outcome);
            Checks.due("told of part(" + part + ") in " + text, Checks.toldAll(x), oracle.told());
        }
    }
}
