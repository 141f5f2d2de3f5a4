import java.io.IOException;
import java.lang.reflect.Method;
import java.nio.file.Files;
import java.nio.file.Path;
import java.util.TreeSet;
import java.util.regex.Matcher;
import java.util.regex.Pattern;
import java.util.stream.Stream;

/** What README.md says: the calls it shows, the programs of its table, the files it names. */
public final class ReadmeTest {
    private static final Pattern CALL = Pattern.compile("(?m)^x\\.(\\w+)\\((.*?)\\);(?: +// (-?\\w+))?.*$");
    private static final Pattern PROGRAM = Pattern.compile("(?m)\\| `(.*m = .*;)` \\| (-?\\d+), (-?\\d+) \\|$");
    private static final Pattern TEXT = Pattern.compile("(?m)^// (.*)\nx\\.feed\\((.*?)\\);");

    public static void main(String[] args) throws IOException, ReflectiveOperationException {
        String readme = Files.readString(Path.of("README.md"));
        shownCalls(readme);
        shownTexts(readme);
        programs(readme);
        namesOfTests(readme);
        namesOfClasses(readme);
        Checks.finish();
    }

    private static void shownCalls(String readme) throws ReflectiveOperationException {
        ClosureClasses x = new ClosureClasses();
        TreeSet<String> shown = new TreeSet<>();
        Matcher call = CALL.matcher(readme);
        while (call.find()) {
            Object answer = make(x, call.group(1), call.group(2));
            shown.add(call.group(1));
            String due = "STATE".equals(call.group(3)) ? "" + ClosureClasses.STATE : "" + call.group(3);
            Checks.due(call.group(), "" + answer, due);
        }
        Checks.due("calls shown", shown.toString(), "[byteAt, clear, feed, part, read, run, size, told]");
    }

    private static Object make(ClosureClasses x, String name, String numbers) throws ReflectiveOperationException {
        String[] texts = numbers.isEmpty() ? new String[0] : numbers.split(", ");
        Object[] arguments = new Object[texts.length];
        for (int i = 0; i < texts.length; i++) {
            arguments[i] = Long.decode(texts[i]).intValue();
        }
        for (Method method : ClosureClasses.class.getMethods()) {
            if (method.getName().equals(name) && method.getParameterCount() == arguments.length) {
                return method.invoke(x, arguments);
            }
        }
        return "no such call";
    }

    /** The comment ahead of a feed is the text that its numbers are. */
    private static void shownTexts(String readme) {
        Matcher text = TEXT.matcher(readme);
        int count = 0;
        while (text.find()) {
            StringBuilder fed = new StringBuilder();
            for (String number : text.group(2).split(", ")) {
                for (int shift = 24; shift >= 0; shift -= 8) {
                    fed.append((char) (Long.decode(number) >> shift & 255));
                }
            }
            Checks.due("text that is fed", fed.toString().stripTrailing(), text.group(1));
            count++;
        }
        Checks.due("texts", count, 3);
    }

    private static void programs(String readme) {
        Matcher program = PROGRAM.matcher(readme);
        int count = 0;
        while (program.find()) {
            ClosureClasses x = Checks.program(program.group(1));
            Checks.due("run of " + program.group(1), x.run(20000), Integer.parseInt(program.group(2)));
            Checks.due("told(0) of " + program.group(1), x.told(0), Integer.parseInt(program.group(3)));
            count++;
        }
        Checks.due("programs", count, 17);
    }

    private static void namesOfTests(String readme) throws IOException {
        TreeSet<String> named = new TreeSet<>();
        Matcher name = Pattern.compile("`(\\w+Test|\\w*Oracle|Model)`").matcher(readme);
        while (name.find()) {
            named.add(name.group(1) + ".java");
        }
        TreeSet<String> there = new TreeSet<>();
        try (Stream<Path> files = Files.list(Path.of("src/test/java"))) {
            files.map(file -> file.getFileName().toString())
                .filter(file -> !file.equals("Checks.java") && !file.equals("Generator.java")).forEach(there::add);
        }
        Checks.due("tests that are named", named.toString(), there.toString());
        Checks.due(".ci/run can be run", Files.isExecutable(Path.of(".ci/run")) ? 1 : 0, 1);
    }

    private static void namesOfClasses(String readme) {
        TreeSet<String> there = new TreeSet<>();
        for (Class<?> inner : ClosureClasses.class.getDeclaredClasses()) {
            there.add(inner.getSimpleName());
        }
        TreeSet<String> named = new TreeSet<>();
        String part = readme.substring(readme.indexOf("## How it is built"), readme.indexOf("## Tests"));
        Matcher name = Pattern.compile("`(\\w+)`").matcher(part);
        while (name.find()) {
            named.add(name.group(1));
        }
        Checks.due("classes that are named", named.toString(), there.toString());
    }
}
