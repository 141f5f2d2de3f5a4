import java.math.BigInteger;
import java.util.ArrayDeque;
import java.util.ArrayList;
import java.util.Deque;
import java.util.HashSet;
import java.util.LinkedHashSet;
import java.util.List;
import java.util.Set;
import java.util.regex.Matcher;
import java.util.regex.Pattern;

/**
 * What read() is due to answer, by a second reading of the document: no calls within calls, but a
 * list of what has yet to come, from which each piece takes the first.
 */
final class TextOracle {
    private record Piece(String text, int place) {
    }

    private static final class Wrong extends RuntimeException {
        private static final long serialVersionUID = 1;
        final int place;

        Wrong(int place) {
            super(null, null, false, false);
            this.place = place;
        }
    }

    private static final Pattern ANY_PIECE = Pattern.compile("(?s)[a-z]+|[0-9]+|[^ \n]");
    private static final Set<String> NO_NAMES = Set.of("let", "in", "of");

    private final List<Piece> pieces = new ArrayList<>();
    private final Deque<Runnable> toCome = new ArrayDeque<>();
    private final List<String> bound = new ArrayList<>();
    private final Set<String> defined = new LinkedHashSet<>();
    private final List<Piece> unbound = new ArrayList<>();
    private int at;
    private int units;

    private TextOracle(String text) {
        Matcher matcher = ANY_PIECE.matcher(text);
        while (matcher.find()) {
            pieces.add(new Piece(matcher.group(), matcher.start()));
        }
        pieces.add(new Piece("", text.length()));
    }

    static int read(String text) {
        TextOracle oracle = new TextOracle(text);
        try {
            oracle.readAll();
        } catch (Wrong wrong) {
            return -1 - wrong.place;
        }
        return oracle.units;
    }

    private void readAll() {
        toCome.push(this::definition);
        while (!toCome.isEmpty()) {
            toCome.pop().run();
        }
        for (Piece name : unbound) {
            if (!defined.contains(name.text())) {
                throw new Wrong(name.place());
            }
        }
    }

    private void then(Runnable... steps) {
        for (int i = steps.length - 1; i >= 0; i--) {
            toCome.push(steps[i]);
        }
    }

    private boolean is(String text) {
        return pieces.get(at).text().equals(text);
    }

    private boolean isName() {
        return pieces.get(at).text().matches("[a-z]{1,3}") && !NO_NAMES.contains(pieces.get(at).text());
    }

    private boolean isNumber(int greatest) {
        String text = pieces.get(at).text();
        return text.matches("[0-9]+") && new BigInteger(text).compareTo(BigInteger.valueOf(greatest)) <= 0;
    }

    private String takeIf(boolean fits) {
        if (!fits) {
            throw new Wrong(pieces.get(at).place());
        }
        at++;
        return pieces.get(at - 1).text();
    }

    private Runnable sign(String text) {
        return () -> takeIf(is(text));
    }

    private Runnable term(int depth) {
        return () -> readTerm(depth);
    }

    private Runnable unbind() {
        int count = bound.size();
        return () -> bound.subList(count, bound.size()).clear();
    }

    private void definition() {
        if (is("") && !defined.isEmpty()) {
            return;
        }
        boolean known = defined.contains(pieces.get(at).text());
        defined.add(takeIf(isName() && !known && defined.size() < 40));
        units++;
        then(row("=", 0, new HashSet<>()), term(1), sign(";"), unbind(), this::definition);
    }

    private Runnable row(String closing, int least, Set<String> names) {
        return () -> {
            if (is(closing) && names.size() >= least) {
                at++;
                return;
            }
            boolean again = names.contains(pieces.get(at).text());
            String name = takeIf(isName() && !again && names.size() < 6);
            names.add(name);
            bound.add(name);
            then(row(closing, least, names));
        };
    }

    private void readTerm(int depth) {
        Piece first = pieces.get(at);
        boolean number = isNumber(Integer.MAX_VALUE);
        takeIf(depth <= 40 && (number || isName() || first.text().matches("[(\\\\#@?+*/%<=!-]|let")));
        int inner = depth + 1;
        switch (first.text()) {
            case "(":
                then(term(inner), operand(inner, ""), arguments(inner, 1));
                break;
            case "\\":
                units++;
                then(row(".", 1, new HashSet<>()), term(inner), unbind());
                break;
            case "let":
                readLet(inner);
                break;
            case "#":
                takeIf(isNumber(999));
                then(is("(") ? parts(inner, 0) : () -> { });
                break;
            case "@":
                then(term(inner), sign("{"), alternatives(inner, new HashSet<>()));
                break;
            case "?":
                takeIf(isNumber(99));
                break;
            default:
                if (first.text().matches("[a-z]+")) {
                    tellName(first);
                } else if (!number) {
                    then(term(inner), term(inner));
                }
        }
    }

    private void tellName(Piece name) {
        if (!bound.contains(name.text())) {
            unbound.add(name);
        }
    }

    private Runnable operand(int depth, String own) {
        return () -> {
            boolean otherName = isName() && !is(own);
            units += isNumber(Integer.MAX_VALUE) || otherName || is("\\") ? 0 : 1;
            readTerm(depth);
        };
    }

    private Runnable arguments(int depth, int count) {
        return () -> {
            if (is(")")) {
                at++;
            } else if (count == 6) {
                takeIf(false);
            } else {
                then(operand(depth, ""), arguments(depth, count + 1));
            }
        };
    }

    /** Begins at the ( or , ahead of a part, or at the ) behind the last one. */
    private Runnable parts(int depth, int count) {
        return () -> {
            if (count > 0 && is(")")) {
                at++;
                return;
            }
            takeIf(is(count == 0 ? "(" : ","));
            if (count == 6) {
                takeIf(false);
            }
            then(operand(depth, ""), parts(depth, count + 1));
        };
    }

    private void readLet(int depth) {
        Runnable unbind = unbind();
        String name = takeIf(isName());
        bound.add(name);
        then(sign("="), operand(depth, name), sign("in"), term(depth), unbind);
    }

    /** The numbers told up to here, -1 for _. */
    private Runnable alternatives(int depth, Set<Integer> told) {
        return () -> {
            if (is("}") && !told.isEmpty()) {
                at++;
                return;
            }
            boolean more = told.size() < 12 && !told.contains(-1);
            boolean any = is("_");
            boolean other = isNumber(999) && !told.contains(Integer.valueOf(pieces.get(at).text()));
            String k = takeIf(more && (any || other));
            told.add(any ? -1 : Integer.valueOf(k));
            then(any ? sign(":") : row(":", 0, new HashSet<>()), term(depth), sign(";"), unbind(),
                alternatives(depth, told));
        };
    }
}
