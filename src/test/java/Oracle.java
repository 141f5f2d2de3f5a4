import java.util.ArrayList;
import java.util.LinkedHashSet;
import java.util.List;
import java.util.Set;

/**
 * The document once more, over trees with names and Java's own calls and objects, to be compared
 * with the class: no slots, no bytes to run over, no frames.
 */
final class Oracle {
    interface Term {
    }

    record Num(int value) implements Term {
    }

    record Name(String name) implements Term {
    }

    record Call(Term function, List<Term> arguments) implements Term {
    }

    record Fun(List<String> names, Term body) implements Term {
    }

    record Let(String name, Term first, Term second) implements Term {
    }

    record Con(int tag, List<Term> parts) implements Term {
    }

    record Alternative(int tag, List<String> names, Term body) {
    }

    record Choice(Term term, List<Alternative> alternatives) implements Term {
    }

    record Op(char sign, Term first, Term second) implements Term {
    }

    record Fault(int number) implements Term {
    }

    record Definition(String name, List<String> parameters, Term body) {
    }

    static final int ANY = 65535;

    private static final class Env {
        final String name;
        final Env next;
        Object what;

        Env(String name, Object what, Env next) {
            this.name = name;
            this.what = what;
            this.next = next;
        }
    }

    private record Function(List<String> names, Term body, Env env, List<Object> got) {
    }

    private record Constructor(int tag, List<Object> parts) {
    }

    private static final class Delayed {
        final Term term;
        final Env env;
        boolean underWay;
        Object value;

        Delayed(Term term, Env env) {
            this.term = term;
            this.env = env;
        }
    }

    private static final class Failed extends RuntimeException {
        private static final long serialVersionUID = 1;
        final int code;

        Failed(int code) {
            super(null, null, false, false);
            this.code = code;
        }
    }

    private final List<Definition> definitions;
    private final Delayed[] once;
    private int limit;
    private int steps;
    private int objects;
    private int set;
    private int deepest;
    private Object result;

    Oracle(List<Definition> definitions) {
        this.definitions = definitions;
        once = new Delayed[definitions.size()];
    }

    int run(int mostSteps) {
        limit = mostSteps;
        steps = 0;
        objects = 0;
        set = 0;
        deepest = 0;
        java.util.Arrays.fill(once, null);
        for (Definition d : definitions) {
            if (d.name().equals("m")) {
                return outcome(new Delayed(d.body(), null), false);
            }
        }
        return -1001;
    }

    int part(int i) {
        if (!(result instanceof Constructor c) || i < 0 || i >= c.parts().size()) {
            return -1001;
        }
        return outcome(c.parts().get(i), true);
    }

    String told() {
        int number = 0;
        int parts = 0;
        if (result instanceof Integer n) {
            number = n;
        } else if (result instanceof Function f) {
            number = f.names().size() - f.got().size();
        } else if (result instanceof Constructor c) {
            number = c.tag();
            parts = c.parts().size();
        }
        return number + " " + steps + " " + objects + " " + set + " " + deepest + " " + parts;
    }

    private int outcome(Object wanted, boolean sets) {
        try {
            result = sets ? force(wanted, 0) : eval(((Delayed) wanted).term, null, 1);
        } catch (Failed failed) {
            result = null;
            return failed.code;
        }
        return result instanceof Integer ? 0 : result instanceof Function ? 1 : 2;
    }

    private void step() {
        if (steps == limit) {
            throw new Failed(-5);
        }
        steps++;
    }

    private <T> T object(T made) {
        if (objects == 3000) {
            throw new Failed(-4);
        }
        objects++;
        return made;
    }

    private Object force(Object what, int depth) {
        if (!(what instanceof Delayed d)) {
            return what;
        }
        if (d.value == null) {
            if (d.underWay) {
                throw new Failed(-3);
            }
            d.underWay = true;
            d.value = eval(d.term, d.env, depth + 1);
            set++;
        }
        return d.value;
    }

    private Object lookUp(String name, Env env) {
        for (Env e = env; e != null; e = e.next) {
            if (e.name.equals(name)) {
                return e.what;
            }
        }
        for (int i = 0; i < definitions.size(); i++) {
            Definition d = definitions.get(i);
            if (d.name().equals(name)) {
                if (!d.parameters().isEmpty()) {
                    return new Function(d.parameters(), d.body(), null, List.of());
                }
                if (once[i] == null) {
                    once[i] = object(new Delayed(d.body(), null));
                }
                return once[i];
            }
        }
        throw new IllegalStateException("no such name: " + name);
    }

    private Object operand(Term t, Env env) {
        if (t instanceof Num n) {
            return n.value();
        }
        if (t instanceof Name n) {
            return lookUp(n.name(), env);
        }
        if (t instanceof Fun f) {
            return object(new Function(f.names(), f.body(), env, List.of()));
        }
        return object(new Delayed(t, env));
    }

    private List<Object> operands(List<Term> terms, Env env) {
        List<Object> made = new ArrayList<>();
        for (Term t : terms) {
            made.add(operand(t, env));
        }
        return made;
    }

    private Object eval(Term t, Env env, int depth) {
        if (depth > 150) {
            throw new Failed(-7);
        }
        deepest = Math.max(deepest, depth);
        if (t instanceof Num n) {
            return n.value();
        } else if (t instanceof Name n) {
            return force(lookUp(n.name(), env), depth);
        } else if (t instanceof Fun) {
            return operand(t, env);
        } else if (t instanceof Con c) {
            Constructor made = new Constructor(c.tag(), operands(c.parts(), env));
            return c.parts().isEmpty() ? made : object(made);
        } else if (t instanceof Let l) {
            return eval(l.second(), letEnv(l, env), depth);
        } else if (t instanceof Call c) {
            Object function = eval(c.function(), env, depth + 1);
            step();
            if (!(function instanceof Function f)) {
                throw new Failed(-2);
            }
            return apply(f, operands(c.arguments(), env), depth);
        } else if (t instanceof Choice c) {
            return choose(c, env, depth);
        } else if (t instanceof Op o) {
            return operate(o, env, depth);
        }
        throw new Failed(100 + ((Fault) t).number());
    }

    private Env letEnv(Let l, Env env) {
        Env own = new Env(l.name(), null, env);
        boolean itself = l.first() instanceof Name n && n.name().equals(l.name());
        own.what = itself ? object(new Delayed(l.first(), own)) : operand(l.first(), own);
        return own;
    }

    private Object apply(Function f, List<Object> arguments, int depth) {
        int taken = f.names().size() - f.got().size();
        List<Object> all = new ArrayList<>(f.got());
        all.addAll(arguments.subList(0, Math.min(taken, arguments.size())));
        if (arguments.size() < taken) {
            return object(new Function(f.names(), f.body(), f.env(), all));
        }
        Env env = f.env();
        for (int i = 0; i < all.size(); i++) {
            env = new Env(f.names().get(i), all.get(i), env);
        }
        if (arguments.size() == taken) {
            return eval(f.body(), env, depth);
        }
        Object next = eval(f.body(), env, depth + 1);
        step();
        if (!(next instanceof Function g)) {
            throw new Failed(-2);
        }
        return apply(g, arguments.subList(taken, arguments.size()), depth);
    }

    private Object choose(Choice c, Env env, int depth) {
        Object value = eval(c.term(), env, depth + 1);
        step();
        if (!(value instanceof Constructor made)) {
            throw new Failed(-2);
        }
        for (Alternative a : c.alternatives()) {
            boolean same = a.tag() == made.tag() && a.names().size() == made.parts().size();
            if (same || a.tag() == ANY) {
                Env inner = env;
                for (int i = 0; i < a.names().size(); i++) {
                    inner = new Env(a.names().get(i), made.parts().get(i), inner);
                }
                return eval(a.body(), inner, depth);
            }
        }
        throw new Failed(-6);
    }

    private Object operate(Op o, Env env, int depth) {
        Object first = eval(o.first(), env, depth + 1);
        if (o.sign() == '!') {
            step();
            return eval(o.second(), env, depth);
        }
        Object second = eval(o.second(), env, depth + 1);
        step();
        if (!(first instanceof Integer a) || !(second instanceof Integer b)) {
            throw new Failed(-2);
        }
        if (b == 0 && (o.sign() == '/' || o.sign() == '%')) {
            throw new Failed(-1);
        }
        switch (o.sign()) {
            case '+':
                return a + b;
            case '-':
                return a - b;
            case '*':
                return a * b;
            case '/':
                return a / b;
            case '%':
                return a % b;
            case '<':
                return new Constructor(a < b ? 1 : 0, List.of());
            default:
                return new Constructor(a.intValue() == b.intValue() ? 1 : 0, List.of());
        }
    }

    /** The bytes of all units, by their numbers, each joined by blanks. */
    static List<String> unitsOf(List<Definition> definitions) {
        List<String> units = new ArrayList<>();
        List<String> order = new ArrayList<>();
        for (Definition d : definitions) {
            order.add(d.name());
        }
        for (Definition d : definitions) {
            new Shape(units, order, List.of(), new ArrayList<>(d.parameters())).unit(0, "", d.parameters().size(), d.body());
        }
        return units;
    }

    /** A unit's names by place, while its bytes are made. */
    private record Shape(List<String> units, List<String> order, List<String> fields, List<String> locals) {
        void unit(int kind, String captured, int parameters, Term body) {
            int number = units.size();
            units.add("");
            units.set(number, kind + " " + fields.size() + captured + " " + parameters + bytes(body));
        }

        String place(String name) {
            if (locals.contains(name)) {
                return " 0 " + locals.lastIndexOf(name);
            }
            return fields.contains(name) ? " 1 " + fields.indexOf(name) : " 2 " + order.indexOf(name);
        }

        private static String two(int number) {
            return " " + number / 256 + " " + number % 256;
        }

        private static String four(int number) {
            return two(number >>> 16) + two(number & 65535);
        }

        private String inner(int kind, List<String> parameters, Term body) {
            Set<String> told = free(body);
            told.removeAll(parameters);
            List<String> taken = new ArrayList<>();
            StringBuilder places = new StringBuilder();
            for (String name : told) {
                if (locals.contains(name) || fields.contains(name)) {
                    taken.add(name);
                    places.append(place(name));
                }
            }
            int number = units.size();
            new Shape(units, order, taken, new ArrayList<>(parameters)).unit(kind, places.toString(), parameters.size(), body);
            return two(number);
        }

        private String operand(Term t) {
            if (t instanceof Num n) {
                return " 0" + four(n.value());
            }
            if (t instanceof Name n) {
                return " 1" + place(n.name());
            }
            return " 2" + (t instanceof Fun f ? inner(1, f.names(), f.body()) : inner(2, List.of(), t));
        }

        private String operands(List<Term> terms) {
            StringBuilder all = new StringBuilder();
            for (Term t : terms) {
                all.append(operand(t));
            }
            return all.toString();
        }

        private Shape with(List<String> names) {
            List<String> more = new ArrayList<>(locals);
            more.addAll(names);
            return new Shape(units, order, fields, more);
        }

        private String bytes(Term t) {
            if (t instanceof Num n) {
                return " 10" + four(n.value());
            } else if (t instanceof Name n) {
                return " 11" + place(n.name());
            } else if (t instanceof Call c) {
                return " 12 " + c.arguments().size() + bytes(c.function()) + operands(c.arguments());
            } else if (t instanceof Fun f) {
                return " 13" + inner(1, f.names(), f.body());
            } else if (t instanceof Let l) {
                Shape own = with(List.of(l.name()));
                boolean itself = l.first() instanceof Name n && n.name().equals(l.name());
                return " 14" + (itself ? " 2" + own.inner(2, List.of(), l.first()) : own.operand(l.first()))
                    + own.bytes(l.second());
            } else if (t instanceof Con c) {
                return " 15" + two(c.tag()) + " " + c.parts().size() + operands(c.parts());
            } else if (t instanceof Choice c) {
                StringBuilder all = new StringBuilder(" 16" + bytes(c.term()) + " " + c.alternatives().size());
                for (Alternative a : c.alternatives()) {
                    String body = with(a.names()).bytes(a.body());
                    all.append(two(a.tag())).append(" ").append(a.names().size());
                    all.append(two(body.split(" ").length - 1)).append(body);
                }
                return all.toString();
            } else if (t instanceof Op o) {
                return " 17 " + (int) o.sign() + bytes(o.first()) + bytes(o.second());
            }
            return " 18 " + ((Fault) t).number();
        }
    }

    /** The names that a term tells and does not bind, in order. */
    private static Set<String> free(Term t) {
        Set<String> names = new LinkedHashSet<>();
        if (t instanceof Name n) {
            names.add(n.name());
        } else if (t instanceof Call c) {
            names.addAll(free(c.function()));
            for (Term a : c.arguments()) {
                names.addAll(free(a));
            }
        } else if (t instanceof Fun f) {
            names.addAll(free(f.body()));
            names.removeAll(f.names());
        } else if (t instanceof Let l) {
            names.addAll(free(l.first()));
            names.addAll(free(l.second()));
            names.remove(l.name());
        } else if (t instanceof Con c) {
            for (Term p : c.parts()) {
                names.addAll(free(p));
            }
        } else if (t instanceof Choice c) {
            names.addAll(free(c.term()));
            for (Alternative a : c.alternatives()) {
                Set<String> inner = free(a.body());
                inner.removeAll(a.names());
                names.addAll(inner);
            }
        } else if (t instanceof Op o) {
            names.addAll(free(o.first()));
            names.addAll(free(o.second()));
        }
        return names;
    }

    static String textOf(List<Definition> definitions) {
        StringBuilder text = new StringBuilder();
        for (Definition d : definitions) {
            text.append(d.name());
            for (String p : d.parameters()) {
                text.append(' ').append(p);
            }
            text.append('=').append(textOf(d.body())).append(";");
        }
        return text.toString();
    }

    private static String textOf(Term t) {
        if (t instanceof Num n) {
            return " " + n.value();
        } else if (t instanceof Name n) {
            return " " + n.name();
        } else if (t instanceof Call c) {
            return "(" + textOf(c.function()) + textOf(c.arguments(), "") + ")";
        } else if (t instanceof Fun f) {
            return "\\" + String.join(" ", f.names()) + "." + textOf(f.body());
        } else if (t instanceof Let l) {
            return " let " + l.name() + "=" + textOf(l.first()) + " in" + textOf(l.second());
        } else if (t instanceof Con c) {
            return "#" + c.tag() + (c.parts().isEmpty() ? " " : "(" + textOf(c.parts(), ",") + ")");
        } else if (t instanceof Choice c) {
            StringBuilder text = new StringBuilder("@" + textOf(c.term()) + "{");
            for (Alternative a : c.alternatives()) {
                text.append(a.tag() == ANY ? "_" : "" + a.tag());
                text.append(a.names().isEmpty() ? "" : " " + String.join(" ", a.names()));
                text.append(":").append(textOf(a.body())).append(";");
            }
            return text.append("}").toString();
        } else if (t instanceof Op o) {
            return o.sign() + textOf(o.first()) + textOf(o.second());
        }
        return "?" + ((Fault) t).number();
    }

    private static String textOf(List<Term> terms, String between) {
        StringBuilder text = new StringBuilder();
        for (Term t : terms) {
            text.append(text.length() == 0 ? "" : between).append(textOf(t));
        }
        return text.toString();
    }
}
