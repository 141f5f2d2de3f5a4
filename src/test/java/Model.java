import java.util.HashMap;
import java.util.List;
import java.util.Map;

/** The calls of the document over the two oracles: what each is due to answer, one after the other. */
final class Model {
    private static final int STATE = ClosureClasses.STATE, BAD = ClosureClasses.BAD, FULL = ClosureClasses.FULL;

    private final Map<String, List<Oracle.Definition>> known = new HashMap<>();
    private final StringBuilder tape = new StringBuilder();
    private List<Oracle.Definition> program;
    private Oracle oracle;

    /** The text of these definitions may be read, and so may that of the first ones of them. */
    void know(List<Oracle.Definition> definitions) {
        for (int n = 1; n <= definitions.size(); n++) {
            List<Oracle.Definition> first = definitions.subList(0, n);
            known.put(Oracle.textOf(first), first);
        }
    }

    int onTape() {
        return tape.length();
    }

    int units() {
        return program == null ? 0 : Oracle.unitsOf(program).size();
    }

    int feed(String twenty) {
        if (tape.length() + 20 > 4000) {
            return FULL;
        }
        tape.append(twenty);
        return tape.length();
    }

    int read(int n) {
        String all = tape.toString();
        tape.setLength(0);
        if (n < 0 || n > all.length()) {
            return BAD;
        }
        String text = all.substring(0, n);
        int answer = TextOracle.read(text);
        if (answer >= 1) {
            program = known.get(text.stripTrailing());
            oracle = null;
        }
        return answer;
    }

    int size(int u) {
        if (program == null) {
            return STATE;
        }
        return u < 0 || u >= units() ? BAD : bytes(u).length;
    }

    int byteAt(int u, int i) {
        int size = size(u);
        if (size < 0) {
            return size;
        }
        return i < 0 || i >= size ? BAD : Integer.parseInt(bytes(u)[i]);
    }

    private String[] bytes(int u) {
        return Oracle.unitsOf(program).get(u).split(" ");
    }

    int run(int limit) {
        if (limit < 0 || limit > 20000) {
            return BAD;
        }
        if (program == null || program.stream().noneMatch(d -> d.name().equals("m"))) {
            return STATE;
        }
        oracle = new Oracle(program);
        return oracle.run(limit);
    }

    int told(int what) {
        if (oracle == null) {
            return STATE;
        }
        return what < 0 || what > 5 ? BAD : Integer.parseInt(oracle.told().split(" ")[what]);
    }

    int part(int i) {
        return oracle == null ? STATE : oracle.part(i);
    }

    void clear() {
        tape.setLength(0);
        program = null;
        oracle = null;
    }
}
