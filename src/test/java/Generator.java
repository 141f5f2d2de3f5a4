import java.util.ArrayList;
import java.util.List;
import java.util.Random;

/** Random programs whose terms are mostly of the kind that is wanted there, so that runs go far. */
final class Generator {
    private enum Kind { INT, BOOL, LIST, FUN }

    private record Bound(String name, Kind kind) {
    }

    private record Signature(String name, List<Kind> parameters, Kind result) {
    }

    private static final String[] NAMES = {"a", "b", "c", "x", "y", "zz", "abc", "m", "f"};
    private static final char[] SIGNS = {'+', '-', '*', '/', '%', '+', '-'};

    private final Random random;
    private final List<Signature> signatures = new ArrayList<>();
    private int current;

    Generator(long seed) {
        random = new Random(seed);
    }

    List<Oracle.Definition> program() {
        int count = 1 + random.nextInt(6);
        for (int i = 0; i < count; i++) {
            List<Kind> parameters = new ArrayList<>();
            for (int n = random.nextInt(4); n > 0; n--) {
                parameters.add(kind());
            }
            signatures.add(new Signature("" + (char) ('f' + i), parameters, kind()));
        }
        signatures.add(random.nextInt(count + 1), new Signature("m", List.of(), kind()));
        List<Oracle.Definition> definitions = new ArrayList<>();
        for (current = 0; current < signatures.size(); current++) {
            Signature s = signatures.get(current);
            List<String> names = names(s.parameters().size());
            List<Bound> around = new ArrayList<>();
            for (int i = 0; i < names.size(); i++) {
                around.add(new Bound(names.get(i), s.parameters().get(i)));
            }
            definitions.add(new Oracle.Definition(s.name(), names, term(s.result(), around, 1 + random.nextInt(6))));
        }
        return definitions;
    }

    private Kind kind() {
        int n = random.nextInt(10);
        return n < 5 ? Kind.INT : n < 7 ? Kind.LIST : n < 9 ? Kind.FUN : Kind.BOOL;
    }

    private List<String> names(int count) {
        List<String> names = new ArrayList<>();
        while (names.size() < count) {
            String name = NAMES[random.nextInt(NAMES.length)];
            if (!names.contains(name)) {
                names.add(name);
            }
        }
        return names;
    }

    private static List<Bound> with(List<Bound> around, Bound... more) {
        List<Bound> all = new ArrayList<>(around);
        for (Bound b : more) {
            all.removeIf(old -> old.name().equals(b.name()));
            all.add(b);
        }
        return all;
    }

    private Oracle.Term term(Kind wanted, List<Bound> around, int left) {
        Kind kind = random.nextInt(60) == 0 ? kind() : wanted;
        if (left <= 0) {
            return leaf(kind, around);
        }
        switch (random.nextInt(12)) {
            case 0:
                return leaf(kind, around);
            case 1: case 2:
                return let(kind, around, left);
            case 3: case 4:
                return choice(kind, around, left);
            case 5: case 6:
                return call(kind, around, left);
            case 7:
                return random.nextInt(6) == 0 ? new Oracle.Fault(random.nextInt(100))
                    : new Oracle.Op('!', term(kind(), around, left - 1), term(kind, around, left - 1));
            default:
                return own(kind, around, left);
        }
    }

    private Oracle.Term leaf(Kind kind, List<Bound> around) {
        List<String> fitting = new ArrayList<>();
        for (Bound b : around) {
            if (b.kind() == kind) {
                fitting.add(b.name());
            }
        }
        for (Signature s : signatures) {
            boolean hidden = around.stream().anyMatch(b -> b.name().equals(s.name()));
            boolean function = kind == Kind.FUN && s.parameters().equals(List.of(Kind.INT)) && s.result() == Kind.INT;
            // definitions without parameters that want earlier ones mostly loop
            boolean later = signatures.indexOf(s) > current || random.nextInt(20) == 0;
            if (!hidden && (function || later && s.parameters().isEmpty() && s.result() == kind)) {
                fitting.add(s.name());
            }
        }
        if (!fitting.isEmpty() && random.nextInt(4) != 0) {
            return new Oracle.Name(fitting.get(random.nextInt(fitting.size())));
        }
        switch (kind) {
            case INT:
                return new Oracle.Num(random.nextInt(8) == 0 ? random.nextInt(Integer.MAX_VALUE) : random.nextInt(5));
            case BOOL:
                return new Oracle.Con(random.nextInt(2), List.of());
            case LIST:
                return new Oracle.Con(0, List.of());
            default:
                return new Oracle.Fun(List.of("x"), new Oracle.Name("x"));
        }
    }

    private Oracle.Term own(Kind kind, List<Bound> around, int left) {
        switch (kind) {
            case INT:
                return new Oracle.Op(SIGNS[random.nextInt(SIGNS.length)],
                    term(Kind.INT, around, left - 1), term(Kind.INT, around, left - 1));
            case BOOL:
                return new Oracle.Op(random.nextBoolean() ? '<' : '=',
                    term(Kind.INT, around, left - 1), term(Kind.INT, around, left - 1));
            case LIST:
                return new Oracle.Con(1,
                    List.of(term(Kind.INT, around, left - 1), term(Kind.LIST, around, left - 1)));
            default:
                int count = 1 + random.nextInt(random.nextInt(8) == 0 ? 2 : 1);
                List<String> names = names(count);
                List<Bound> inner = around;
                for (String name : names) {
                    inner = with(inner, new Bound(name, Kind.INT));
                }
                return new Oracle.Fun(names, term(Kind.INT, inner, left - 1));
        }
    }

    private Oracle.Term let(Kind kind, List<Bound> around, int left) {
        Kind first = kind();
        Bound bound = new Bound(names(1).get(0), first);
        List<Bound> inner = with(around, bound);
        // an int or bool that wants itself only loops, so it mostly is made without its own name
        boolean own = first == Kind.LIST || first == Kind.FUN || random.nextInt(10) == 0;
        List<Bound> forFirst = own ? inner : new ArrayList<>(around);
        if (!own) {
            forFirst.removeIf(b -> b.name().equals(bound.name()));
        }
        return new Oracle.Let(bound.name(), term(first, forFirst, left - 1), term(kind, inner, left - 1));
    }

    private Oracle.Term choice(Kind kind, List<Bound> around, int left) {
        List<Oracle.Alternative> alternatives = new ArrayList<>();
        boolean list = random.nextBoolean();
        Oracle.Term on = term(list ? Kind.LIST : Kind.BOOL, around, left - 1);
        if (random.nextInt(8) != 0) {
            alternatives.add(new Oracle.Alternative(0, List.of(), term(kind, around, left - 1)));
        }
        if (random.nextInt(8) != 0) {
            List<String> names = list ? names(2) : List.of();
            List<Bound> inner = list ? with(around, new Bound(names.get(0), Kind.INT),
                new Bound(names.get(1), Kind.LIST)) : around;
            alternatives.add(new Oracle.Alternative(1, names, term(kind, inner, left - 1)));
        }
        if (alternatives.isEmpty() || random.nextInt(4) == 0) {
            alternatives.add(new Oracle.Alternative(Oracle.ANY, List.of(), term(kind, around, left - 1)));
        }
        return new Oracle.Choice(on, alternatives);
    }

    /** A definition with all its arguments, or one fewer or more where functions come in. */
    private Oracle.Term call(Kind kind, List<Bound> around, int left) {
        List<Signature> fitting = new ArrayList<>();
        for (Signature s : signatures) {
            boolean hidden = around.stream().anyMatch(b -> b.name().equals(s.name()));
            int last = s.parameters().size() - 1;
            boolean whole = last >= 0 && s.result() == kind;
            boolean less = kind == Kind.FUN && last >= 1 && s.parameters().get(last) == Kind.INT && s.result() == Kind.INT;
            boolean more = kind == Kind.INT && last >= 0 && s.result() == Kind.FUN;
            if (!hidden && (whole || less || more)) {
                fitting.add(s);
            }
        }
        if (fitting.isEmpty() || kind == Kind.INT && random.nextInt(3) == 0) {
            return new Oracle.Call(term(kind == Kind.INT ? Kind.FUN : kind, around, left - 1),
                List.of(term(Kind.INT, around, left - 1)));
        }
        Signature s = fitting.get(random.nextInt(fitting.size()));
        List<Oracle.Term> arguments = new ArrayList<>();
        for (Kind parameter : s.parameters()) {
            arguments.add(term(parameter, around, left - 1));
        }
        if (s.result() != kind && kind == Kind.FUN) {
            arguments.remove(arguments.size() - 1);
        } else if (s.result() != kind) {
            arguments.add(term(Kind.INT, around, left - 1));
        }
        return new Oracle.Call(new Oracle.Name(s.name()), arguments);
    }
}
