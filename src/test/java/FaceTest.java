import java.io.IOException;
import java.lang.reflect.Constructor;
import java.lang.reflect.Field;
import java.lang.reflect.Method;
import java.lang.reflect.Modifier;
import java.nio.file.Files;
import java.nio.file.Path;
import java.util.List;
import java.util.TreeSet;
import java.util.regex.Matcher;
import java.util.regex.Pattern;

/** The public face, and the rules of LANGUAGE.md that the text of the class shows. */
public final class FaceTest {
    public static void main(String[] args) throws IOException {
        face();
        constants();
        text();
        Checks.finish();
    }

    private static void face() {
        TreeSet<String> seen = new TreeSet<>();
        for (Method m : ClosureClasses.class.getDeclaredMethods()) {
            if (!Modifier.isPrivate(m.getModifiers())) {
                seen.add(Modifier.toString(m.getModifiers()) + " " + m.getReturnType() + " " + m.getName()
                    + " " + m.getParameterCount());
            }
        }
        Checks.due("methods", seen.toString(), new TreeSet<>(List.of(
            "public int feed 5", "public int read 1", "public int size 1", "public int byteAt 2",
            "public int run 1", "public int told 1", "public int part 1", "public void clear 0")).toString());
        Constructor<?>[] constructors = ClosureClasses.class.getDeclaredConstructors();
        Checks.due("constructors", constructors.length, 1);
        Checks.due("its parameters", constructors[0].getParameterCount(), 0);
        Checks.due("it is public", Modifier.isPublic(constructors[0].getModifiers()) ? 1 : 0, 1);
        Checks.due("the class", Modifier.toString(ClosureClasses.class.getModifiers()), "public final");
        for (Class<?> inner : ClosureClasses.class.getDeclaredClasses()) {
            Checks.due(inner + " is static", Modifier.isStatic(inner.getModifiers()) ? 1 : 0, 1);
            int fields = 0;
            for (Field f : inner.getDeclaredFields()) {
                fields += Modifier.isStatic(f.getModifiers()) ? 0 : 1;
            }
            Checks.due(inner + " has at most 20 fields", fields <= 20 ? 1 : fields, 1);
            for (Method m : inner.getDeclaredMethods()) {
                boolean ofFace = List.of("feed", "read", "size", "byteAt", "run", "told", "part", "clear")
                    .contains(m.getName());
                Checks.due(m + " bears no name of the face", ofFace ? 1 : 0, 0);
                Checks.due(m + " takes at most 7", m.getParameterCount() <= 7 ? 1 : 0, 1);
            }
        }
        Checks.due("at most 12 classes", ClosureClasses.class.getDeclaredClasses().length <= 11 ? 1 : 0, 1);
    }

    private static void constants() {
        int count = 0;
        for (Field f : ClosureClasses.class.getDeclaredFields()) {
            boolean hidden = Modifier.isPrivate(f.getModifiers());
            count += hidden ? 0 : 1;
            if (!hidden) {
                Checks.due(f.getName(), Modifier.toString(f.getModifiers()), "public static final");
            }
        }
        Checks.due("constants", count, 4);
        Checks.due("NONE", ClosureClasses.NONE, -1000);
        Checks.due("STATE", ClosureClasses.STATE, -1001);
        Checks.due("BAD", ClosureClasses.BAD, -1002);
        Checks.due("FULL", ClosureClasses.FULL, -1003);
    }

    private static void text() throws IOException {
        String text = Files.readString(Path.of("src/main/java/ClosureClasses.java"));
        String code = text.replaceAll("(?s)/\\*.*?\\*/", "").replaceAll("//[^\n]*", "");
        Pattern ruledOut = Pattern.compile("\\b(throw|try|catch|synchronized|assert|package|interface|lambda"
            + "|Object|System|Thread|Random|hashCode|toString|Exact)\\b|->|::|static \\{|\\bInteger\\.|float|double");
        Matcher matcher = ruledOut.matcher(code);
        Checks.due("what is ruled out", matcher.find() ? matcher.group() : "", "");
        Matcher imports = Pattern.compile("import ([\\w.]+);").matcher(code);
        TreeSet<String> imported = new TreeSet<>();
        while (imports.find()) {
            imported.add(imports.group(1));
        }
        Checks.due("imports", imported.toString(), "[java.util.ArrayList, java.util.Arrays]");
        Checks.due("lines of the longest method", longestMethod(text) <= 60 ? 1 : longestMethod(text), 1);
    }

    private static int longestMethod(String text) {
        String[] lines = text.split("\n");
        int longest = 0;
        int start = -1;
        for (int i = 0; i < lines.length; i++) {
            if (lines[i].matches(" {4}( {4})?[\\w<>\\[\\], ]+\\(.*\\) \\{")) {
                start = i;
            } else if (lines[i].matches(" {4}( {4})?\\}") && start >= 0) {
                longest = Math.max(longest, i - start + 1);
                start = -1;
            }
        }
        return longest;
    }
}
