import java.util.ArrayList;
import java.util.Arrays;

/**
 * A lazy language made to units of code: functions and delayed terms with what they captured as
 * fields, constructors chosen by their tags, tail calls that leave nothing behind; run over
 * objects that are set once.
 */
public final class ClosureClasses {
    public static final int NONE = -1000, STATE = -1001, BAD = -1002, FULL = -1003;

    private static final int TAPE_ROOM = 4000;
    private static final int BYTES_A_FEED = 20;
    private static final int GREATEST_LIMIT = 20000;

    private final Row tape;
    private final Machine machine;
    private int onTape;
    private Program program;

    public ClosureClasses() {
        tape = new Row(256);
        machine = new Machine();
        onTape = 0;
        program = null;
    }

    public int feed(int a, int b, int c, int d, int e) {
        if (onTape + BYTES_A_FEED > TAPE_ROOM) {
            return FULL;
        }
        putOnTape(a);
        putOnTape(b);
        putOnTape(c);
        putOnTape(d);
        putOnTape(e);
        return onTape;
    }

    public int read(int n) {
        int had = onTape;
        onTape = 0;
        if (n < 0 || n > had) {
            return BAD;
        }
        Reader reader = new Reader(new Pieces(tape, n));
        reader.readProgram();
        if (reader.wrong >= 0) {
            return -1 - reader.wrong;
        }
        program = new Program(reader.definitionUnits, reader.mainUnit());
        Writer writer = new Writer(program);
        writer.writeUnits(reader.units);
        machine.forget();
        return program.units;
    }

    public int size(int u) {
        if (program == null) {
            return STATE;
        }
        return program.hasUnit(u) ? program.unitLength(u) : BAD;
    }

    public int byteAt(int u, int i) {
        if (program == null) {
            return STATE;
        }
        if (!program.hasUnit(u) || i < 0 || i >= program.unitLength(u)) {
            return BAD;
        }
        return program.codeAt(program.unitStart(u) + i);
    }

    public int run(int limit) {
        if (limit < 0 || limit > GREATEST_LIMIT) {
            return BAD;
        }
        if (program == null || program.mainUnit < 0) {
            return STATE;
        }
        machine.start(program, limit);
        machine.go();
        return machine.outcome();
    }

    public int told(int what) {
        if (!machine.hasRun) {
            return STATE;
        }
        switch (what) {
            case 0:
                return machine.resultNumber();
            case 1:
                return machine.steps;
            case 2:
                return machine.heap.made;
            case 3:
                return machine.heap.set;
            case 4:
                return machine.deepest;
            case 5:
                return machine.resultParts();
            default:
                return BAD;
        }
    }

    public int part(int i) {
        if (!machine.hasRun || i < 0 || i >= machine.resultParts()) {
            return STATE;
        }
        machine.startPart(i);
        machine.go();
        return machine.outcome();
    }

    public void clear() {
        onTape = 0;
        program = null;
        machine.forget();
    }

    private void putOnTape(int number) {
        for (int shift = 24; shift >= 0; shift -= 8) {
            tape.put(onTape, (number >>> shift) & 255);
            onTape++;
        }
    }

    /**
     * Numbers by index; it grows when it is written and holds 0 where nothing was. All indices
     * are tested here, so that nobody else has to.
     */
    private static final class Row {
        private static final int MOST = 1 << 20;

        private long[] cells;

        Row(int room) {
            cells = new long[Math.max(1, Math.min(room, MOST))];
        }

        long longAt(int i) {
            return i >= 0 && i < cells.length ? cells[i] : 0;
        }

        int at(int i) {
            return i >= 0 && i < cells.length ? (int) cells[i] : 0;
        }

        void put(int i, long number) {
            if (i < 0 || i >= MOST) {
                return;
            }
            if (i >= cells.length) {
                cells = Arrays.copyOf(cells, Math.min(MOST, Math.max(i + 1, 2 * cells.length)));
            }
            cells[i] = number;
        }
    }

    /** The text parted into pieces, and the one that the reader is at: a sign's kind is its byte. */
    private static final class Pieces {
        static final int END = 0, NAME = 1, NUMBER = 2, LET = 3, IN = 4, UNKNOWN = 5;

        private static final String SIGNS = "(){}\\.=;:,#?!+-*/%<_@";
        private static final int LONGEST_NAME = 3;
        private static final long GREATEST_NUMBER = 2147483647L;
        private static final int LET_WORD = ('l' << 16) + ('e' << 8) + 't';
        private static final int IN_WORD = ('i' << 8) + 'n';
        private static final int OF_WORD = ('o' << 8) + 'f';

        private final Row text;
        private final int length;
        private final Row kinds;
        private final Row places;
        private final Row values;
        private int behind;
        private int count;
        private int next;
        int kind;
        int place;
        int value;

        Pieces(Row text, int length) {
            this.text = text;
            this.length = length;
            kinds = new Row(16);
            places = new Row(16);
            values = new Row(16);
        }

        void split() {
            skipBlanks();
            for (int n = 0; n < length && behind < length; n++) {
                splitOne(text.at(behind));
                skipBlanks();
            }
            keep(END, length, 0);
        }

        /** Behind the last piece it stays at the end. */
        void advance() {
            kind = kinds.at(next);
            place = places.at(next);
            value = values.at(next);
            next = Math.min(next + 1, count - 1);
        }

        private void skipBlanks() {
            while (behind < length && isBlank(text.at(behind))) {
                behind++;
            }
        }

        private void splitOne(int first) {
            if (isLetter(first)) {
                splitWord();
            } else if (isDigit(first)) {
                splitNumber();
            } else {
                keep(SIGNS.indexOf((char) first) >= 0 ? first : UNKNOWN, behind, 0);
                behind++;
            }
        }

        private void splitWord() {
            int start = behind;
            int word = 0;
            while (behind < length && isLetter(text.at(behind))) {
                if (behind - start < LONGEST_NAME) {
                    word = (word << 8) + text.at(behind);
                }
                behind++;
            }
            keep(behind - start > LONGEST_NAME ? UNKNOWN : kindOfWord(word), start, word);
        }

        private static int kindOfWord(int word) {
            switch (word) {
                case LET_WORD:
                    return LET;
                case IN_WORD:
                    return IN;
                case OF_WORD:
                    return UNKNOWN;
                default:
                    return NAME;
            }
        }

        private void splitNumber() {
            int start = behind;
            long number = 0;
            while (behind < length && isDigit(text.at(behind))) {
                if (number <= GREATEST_NUMBER) {
                    number = number * 10 + text.at(behind) - '0';
                }
                behind++;
            }
            keep(number <= GREATEST_NUMBER ? NUMBER : UNKNOWN, start, (int) number);
        }

        private void keep(int pieceKind, int piecePlace, int pieceValue) {
            kinds.put(count, pieceKind);
            places.put(count, piecePlace);
            values.put(count, pieceValue);
            count++;
        }

        private static boolean isBlank(int c) {
            return c == 32 || c == 10;
        }

        private static boolean isLetter(int c) {
            return c >= 'a' && c <= 'z';
        }

        private static boolean isDigit(int c) {
            return c >= '0' && c <= '9';
        }
    }

    /**
     * A term as it was read; its parts are a chain. The kinds up to FAULT are the document's
     * bytes, the others stand only within a term.
     */
    private static final class Term {
        static final int NONE_SUCH = 0, NUMBER = 10, PLACE = 11, CALL = 12, FUNCTION = 13, LET = 14;
        static final int CONSTRUCTOR = 15, CHOICE = 16, OPERATOR = 17, FAULT = 18;
        static final int DELAYED = 19, ALTERNATIVE = 20;
        static final int LOCAL = 0, FIELD = 1, DEFINITION = 2;
        static final int NUMBER_OPERAND = 0, PLACE_OPERAND = 1, UNIT_OPERAND = 2;
        static final int ANY_TAG = 65535;

        final int kind;
        final int textPlace;
        int value;
        int where;
        int names;
        int parts;
        Term firstPart;
        Term nextPart;
        private Term lastPart;

        Term(int kind, int textPlace, int value) {
            this.kind = kind;
            this.textPlace = textPlace;
            this.value = value;
        }

        void add(Term part) {
            if (part == null) {
                return;
            }
            if (lastPart == null) {
                firstPart = part;
            } else {
                lastPart.nextPart = part;
            }
            lastPart = part;
            parts++;
        }
    }

    /** A unit while it is read: its term, and what it captured, each with its place around. */
    private static final class Unit {
        static final int DEFINITION = 0, FUNCTION = 1, DELAYED = 2;

        final int kind;
        final int number;
        int parameters;
        int locals;
        int fields;
        Term term;
        private final Row bindings;
        private final Row wheres;
        private final Row numbers;

        Unit(int kind, int number) {
            this.kind = kind;
            this.number = number;
            bindings = new Row(4);
            wheres = new Row(4);
            numbers = new Row(4);
        }

        /** The field that holds the binding, which the unit around has at this place. */
        int fieldOf(int binding, int whereAround, int numberAround) {
            for (int i = 0; i < fields; i++) {
                if (bindings.at(i) == binding) {
                    return i;
                }
            }
            bindings.put(fields, binding);
            wheres.put(fields, whereAround);
            numbers.put(fields, numberAround);
            fields++;
            return fields - 1;
        }

        int whereOf(int field) {
            return wheres.at(field);
        }

        int numberOf(int field) {
            return numbers.at(field);
        }
    }

    /** The names bound around the place that is read, and the units that are open there. */
    private static final class Scope {
        private static final int MOST_OPEN = 42;

        private final Row names;
        private final Row levels;
        private final Row locals;
        private final Unit[] open;
        private int opened;
        private int bound;

        Scope() {
            names = new Row(16);
            levels = new Row(16);
            locals = new Row(16);
            open = new Unit[MOST_OPEN];
        }

        void enter(Unit unit) {
            if (opened < open.length) {
                open[opened] = unit;
                opened++;
            }
        }

        void leave() {
            opened = Math.max(0, opened - 1);
        }

        void bind(int name) {
            Unit unit = unitAt(opened - 1);
            if (unit == null) {
                return;
            }
            names.put(bound, name);
            levels.put(bound, opened - 1);
            locals.put(bound, unit.locals);
            unit.locals++;
            bound++;
        }

        void unbind(int count) {
            Unit unit = unitAt(opened - 1);
            if (unit != null) {
                unit.locals -= count;
            }
            bound = Math.max(0, bound - count);
        }

        boolean isAmongLast(int count, int name) {
            for (int i = Math.max(0, bound - count); i < bound; i++) {
                if (names.at(i) == name) {
                    return true;
                }
            }
            return false;
        }

        /** Gives the name its place in the innermost unit; false if nothing around bound it. */
        boolean resolve(Term name) {
            int binding = bindingOf(name.value);
            if (binding < 0) {
                return false;
            }
            int where = Term.LOCAL;
            int number = locals.at(binding);
            for (int level = levels.at(binding) + 1; level < opened; level++) {
                Unit unit = unitAt(level);
                if (unit != null) {
                    number = unit.fieldOf(binding, where, number);
                    where = Term.FIELD;
                }
            }
            name.where = where;
            name.value = number;
            return true;
        }

        private int bindingOf(int name) {
            for (int i = bound - 1; i >= 0; i--) {
                if (names.at(i) == name) {
                    return i;
                }
            }
            return -1;
        }

        private Unit unitAt(int level) {
            return level >= 0 && level < open.length ? open[level] : null;
        }
    }

    /**
     * Reads pieces to units. The place of the first piece that can't be there is kept in wrong
     * (-1: none), and from then on no piece is taken any more.
     */
    private static final class Reader {
        private static final int MOST_DEFINITIONS = 40, MOST_IN_ROW = 6, MOST_ALTERNATIVES = 12;
        private static final int DEEPEST = 40;
        private static final int GREATEST_TAG = 999, GREATEST_FAULT = 99;
        private static final int NO_NAME = -1;

        final ArrayList<Unit> units;
        final Row definitionUnits;
        int definitions;
        int wrong;
        private final Pieces pieces;
        private final Scope scope;
        private final Row definitionNames;
        private final ArrayList<Term> unbound;

        Reader(Pieces pieces) {
            this.pieces = pieces;
            units = new ArrayList<>();
            definitionUnits = new Row(8);
            wrong = -1;
            scope = new Scope();
            definitionNames = new Row(8);
            unbound = new ArrayList<>();
        }

        void readProgram() {
            pieces.split();
            pieces.advance();
            readDefinition();
            for (int n = 1; n <= MOST_DEFINITIONS && goesOn(Pieces.END); n++) {
                if (n == MOST_DEFINITIONS) {
                    refuse();
                } else {
                    readDefinition();
                }
            }
            if (wrong < 0) {
                findDefinitions();
            }
        }

        /** The unit that a run gives the value of, or -1. */
        int mainUnit() {
            int m = definitionOf('m');
            int number = definitionUnits.at(m);
            if (m < 0 || number < 0 || number >= units.size()) {
                return -1;
            }
            return units.get(number).parameters == 0 ? number : -1;
        }

        private void readDefinition() {
            if (pieces.kind != Pieces.NAME || definitionOf(pieces.value) >= 0) {
                refuse();
                return;
            }
            Unit unit = openUnit(Unit.DEFINITION);
            definitionNames.put(definitions, pieces.value);
            definitionUnits.put(definitions, unit.number);
            definitions++;
            pieces.advance();
            unit.parameters = bindNames('=');
            unit.term = readTerm(1);
            take(';');
            scope.unbind(unit.parameters);
            scope.leave();
        }

        private int definitionOf(int name) {
            for (int i = 0; i < definitions; i++) {
                if (definitionNames.at(i) == name) {
                    return i;
                }
            }
            return -1;
        }

        /** A name may mean a later definition, so this waits until all are read. */
        private void findDefinitions() {
            for (int i = 0; i < unbound.size() && wrong < 0; i++) {
                Term name = unbound.get(i);
                int definition = definitionOf(name.value);
                if (definition < 0) {
                    wrong = name.textPlace;
                }
                name.where = Term.DEFINITION;
                name.value = definition;
            }
        }

        private Term readTerm(int depth) {
            if (wrong >= 0 || depth > DEEPEST) {
                return refuse();
            }
            Term term = new Term(kindOfTerm(pieces.kind), pieces.place, pieces.value);
            switch (term.kind) {
                case Term.NUMBER:
                    pieces.advance();
                    return term;
                case Term.PLACE:
                    if (!scope.resolve(term)) {
                        unbound.add(term);
                    }
                    pieces.advance();
                    return term;
                case Term.FAULT:
                    pieces.advance();
                    term.value = takeNumber(GREATEST_FAULT);
                    return term;
                case Term.CALL:
                    return readCall(term, depth);
                case Term.FUNCTION:
                    return readFunction(term, depth);
                case Term.LET:
                    return readLet(term, depth);
                case Term.CONSTRUCTOR:
                    return readConstructor(term, depth);
                case Term.CHOICE:
                    return readChoice(term, depth);
                case Term.OPERATOR:
                    return readOperator(term, depth);
                default:
                    return refuse();
            }
        }

        private static int kindOfTerm(int firstPiece) {
            switch (firstPiece) {
                case Pieces.NUMBER:
                    return Term.NUMBER;
                case Pieces.NAME:
                    return Term.PLACE;
                case Pieces.LET:
                    return Term.LET;
                case '(':
                    return Term.CALL;
                case '\\':
                    return Term.FUNCTION;
                case '#':
                    return Term.CONSTRUCTOR;
                case '@':
                    return Term.CHOICE;
                case '?':
                    return Term.FAULT;
                case '+': case '-': case '*': case '/': case '%': case '<': case '=': case '!':
                    return Term.OPERATOR;
                default:
                    return Term.NONE_SUCH;
            }
        }

        /** Reads what is made a delayed unit unless it is plain; a let's own name isn't. */
        private Term readOperand(int depth, int ownName) {
            int kind = pieces.kind;
            boolean otherName = kind == Pieces.NAME && pieces.value != ownName;
            if (wrong >= 0 || otherName || kind == Pieces.NUMBER || kind == '\\') {
                return readTerm(depth);
            }
            Unit unit = openUnit(Unit.DELAYED);
            Term operand = new Term(Term.DELAYED, pieces.place, unit.number);
            unit.term = readTerm(depth);
            scope.leave();
            return operand;
        }

        private Term readCall(Term call, int depth) {
            pieces.advance();
            call.add(readTerm(depth + 1));
            call.add(readOperand(depth + 1, NO_NAME));
            for (int n = 1; n <= MOST_IN_ROW && goesOn(')'); n++) {
                call.add(n == MOST_IN_ROW ? refuse() : readOperand(depth + 1, NO_NAME));
            }
            take(')');
            return call;
        }

        private Term readFunction(Term function, int depth) {
            Unit unit = openUnit(Unit.FUNCTION);
            function.value = unit.number;
            pieces.advance();
            if (pieces.kind != Pieces.NAME) {
                refuse();
            }
            unit.parameters = bindNames('.');
            unit.term = readTerm(depth + 1);
            scope.unbind(unit.parameters);
            scope.leave();
            return function;
        }

        private Term readLet(Term let, int depth) {
            pieces.advance();
            int name = pieces.value;
            take(Pieces.NAME);
            scope.bind(name);
            take('=');
            let.add(readOperand(depth + 1, name));
            take(Pieces.IN);
            let.add(readTerm(depth + 1));
            scope.unbind(1);
            return let;
        }

        private Term readConstructor(Term constructor, int depth) {
            pieces.advance();
            constructor.value = takeNumber(GREATEST_TAG);
            if (wrong >= 0 || pieces.kind != '(') {
                return constructor;
            }
            pieces.advance();
            constructor.add(readOperand(depth + 1, NO_NAME));
            for (int n = 1; n <= MOST_IN_ROW && goesOn(')'); n++) {
                take(',');
                constructor.add(n == MOST_IN_ROW ? refuse() : readOperand(depth + 1, NO_NAME));
            }
            take(')');
            return constructor;
        }

        private Term readChoice(Term choice, int depth) {
            pieces.advance();
            choice.add(readTerm(depth + 1));
            take('{');
            Term latest = readAlternative(choice, depth);
            choice.add(latest);
            for (int n = 1; n <= MOST_ALTERNATIVES && goesOn('}'); n++) {
                boolean full = n == MOST_ALTERNATIVES || latest == null;
                latest = full || latest.value == Term.ANY_TAG ? refuse() : readAlternative(choice, depth);
                choice.add(latest);
            }
            take('}');
            return choice;
        }

        private Term readAlternative(Term choice, int depth) {
            Term alternative = new Term(Term.ALTERNATIVE, pieces.place, Term.ANY_TAG);
            if (pieces.kind == '_') {
                take('_');
                take(':');
            } else {
                if (pieces.kind == Pieces.NUMBER && hasAlternative(choice, pieces.value)) {
                    return refuse();
                }
                alternative.value = takeNumber(GREATEST_TAG);
                alternative.names = bindNames(':');
            }
            alternative.add(readTerm(depth + 1));
            take(';');
            scope.unbind(alternative.names);
            return alternative;
        }

        private static boolean hasAlternative(Term choice, int tag) {
            for (Term part = choice.firstPart; part != null; part = part.nextPart) {
                if (part.kind == Term.ALTERNATIVE && part.value == tag) {
                    return true;
                }
            }
            return false;
        }

        private Term readOperator(Term operator, int depth) {
            operator.value = pieces.kind;
            pieces.advance();
            operator.add(readTerm(depth + 1));
            operator.add(readTerm(depth + 1));
            return operator;
        }

        /** Binds names, all different, up to the closing piece, and takes that; how many. */
        private int bindNames(int closing) {
            int bound = 0;
            for (int n = 0; n <= MOST_IN_ROW && goesOn(closing); n++) {
                boolean again = scope.isAmongLast(bound, pieces.value);
                if (n == MOST_IN_ROW || pieces.kind != Pieces.NAME || again) {
                    refuse();
                } else {
                    scope.bind(pieces.value);
                    bound++;
                    pieces.advance();
                }
            }
            take(closing);
            return bound;
        }

        private int takeNumber(int greatest) {
            int number = pieces.value;
            if (number > greatest) {
                refuse();
            }
            take(Pieces.NUMBER);
            return number;
        }

        private void take(int kind) {
            if (wrong >= 0 || pieces.kind != kind) {
                refuse();
            } else {
                pieces.advance();
            }
        }

        private boolean goesOn(int closing) {
            return wrong < 0 && pieces.kind != closing;
        }

        private Term refuse() {
            if (wrong < 0) {
                wrong = pieces.place;
            }
            return null;
        }

        private Unit openUnit(int kind) {
            Unit unit = new Unit(kind, units.size());
            units.add(unit);
            scope.enter(unit);
            return unit;
        }
    }

    /** The bytes of all units, one behind the other, and where in them things are. */
    private static final class Program {
        final int mainUnit;
        int units;
        int end;
        private final Row code;
        private final Row termEnds;
        private final Row starts;
        private final Row fieldCounts;
        private final Row parameterCounts;
        private final Row definitionUnits;

        Program(Row definitionUnits, int mainUnit) {
            this.definitionUnits = definitionUnits;
            this.mainUnit = mainUnit;
            code = new Row(64);
            termEnds = new Row(64);
            starts = new Row(8);
            fieldCounts = new Row(8);
            parameterCounts = new Row(8);
        }

        void addUnit(Unit unit) {
            starts.put(units, end);
            fieldCounts.put(units, unit.fields);
            parameterCounts.put(units, unit.parameters);
            units++;
        }

        void add(int number, int bytes) {
            for (int shift = 8 * bytes - 8; shift >= 0; shift -= 8) {
                code.put(end, (number >>> shift) & 255);
                end++;
            }
        }

        /** Puts the length of what was written behind the two bytes at this place into them. */
        void putLength(int at) {
            int length = end - at - 2;
            code.put(at, (length >>> 8) & 255);
            code.put(at + 1, length & 255);
        }

        void endTerm(int start) {
            termEnds.put(start, end);
        }

        boolean hasUnit(int unit) {
            return unit >= 0 && unit < units;
        }

        int unitStart(int unit) {
            return starts.at(unit);
        }

        int unitLength(int unit) {
            int unitEnd = unit == units - 1 ? end : starts.at(unit + 1);
            return unitEnd - starts.at(unit);
        }

        int fieldsOf(int unit) {
            return fieldCounts.at(unit);
        }

        int parametersOf(int unit) {
            return parameterCounts.at(unit);
        }

        /** Where the unit's bytes tell the places of its fields. */
        int fieldPlaces(int unit) {
            return starts.at(unit) + 2;
        }

        int termOf(int unit) {
            return starts.at(unit) + 3 + 2 * fieldCounts.at(unit);
        }

        int definitionUnit(int definition) {
            return definitionUnits.at(definition);
        }

        int codeAt(int at) {
            return code.at(at);
        }

        int twoAt(int at) {
            return (code.at(at) << 8) + code.at(at + 1);
        }

        int fourAt(int at) {
            return (code.at(at) << 24) + (code.at(at + 1) << 16) + (code.at(at + 2) << 8) + code.at(at + 3);
        }

        int behindTerm(int start) {
            return termEnds.at(start);
        }
    }

    /** Writes units as the bytes of a program. */
    private static final class Writer {
        private static final int DEEPEST = 40;

        private final Program program;

        Writer(Program program) {
            this.program = program;
        }

        void writeUnits(ArrayList<Unit> units) {
            for (int i = 0; i < units.size(); i++) {
                Unit unit = units.get(i);
                program.addUnit(unit);
                writeHead(unit);
                writeTerm(unit.term, 1);
            }
        }

        private void writeHead(Unit unit) {
            program.add(unit.kind, 1);
            program.add(unit.fields, 1);
            for (int i = 0; i < unit.fields; i++) {
                program.add(unit.whereOf(i), 1);
                program.add(unit.numberOf(i), 1);
            }
            program.add(unit.parameters, 1);
        }

        private void writeTerm(Term term, int depth) {
            if (term == null || depth > DEEPEST) {
                return;
            }
            int start = program.end;
            program.add(term.kind, 1);
            switch (term.kind) {
                case Term.NUMBER:
                    program.add(term.value, 4);
                    break;
                case Term.PLACE:
                    program.add(term.where, 1);
                    program.add(term.value, 1);
                    break;
                case Term.FUNCTION:
                    program.add(term.value, 2);
                    break;
                case Term.CONSTRUCTOR:
                    program.add(term.value, 2);
                    program.add(term.parts, 1);
                    writeOperands(term.firstPart, term.parts);
                    break;
                case Term.FAULT:
                    program.add(term.value, 1);
                    break;
                default:
                    writeParts(term, term.firstPart, depth);
            }
            program.endTerm(start);
        }

        private void writeParts(Term term, Term first, int depth) {
            if (first == null) {
                return;
            }
            int others = term.parts - 1;
            switch (term.kind) {
                case Term.CALL:
                    program.add(others, 1);
                    writeTerm(first, depth + 1);
                    writeOperands(first.nextPart, others);
                    break;
                case Term.LET:
                    writeOperands(first, 1);
                    writeTerm(first.nextPart, depth + 1);
                    break;
                case Term.CHOICE:
                    writeTerm(first, depth + 1);
                    program.add(others, 1);
                    writeAlternatives(first.nextPart, depth);
                    break;
                default:
                    program.add(term.value, 1);
                    writeTerm(first, depth + 1);
                    writeTerm(first.nextPart, depth + 1);
            }
        }

        private void writeAlternatives(Term first, int depth) {
            for (Term alternative = first; alternative != null; alternative = alternative.nextPart) {
                program.add(alternative.value, 2);
                program.add(alternative.names, 1);
                int lengthAt = program.end;
                program.add(0, 2);
                writeTerm(alternative.firstPart, depth + 1);
                program.putLength(lengthAt);
            }
        }

        private void writeOperands(Term first, int count) {
            Term operand = first;
            for (int i = 0; i < count && operand != null; i++) {
                if (operand.kind == Term.NUMBER) {
                    program.add(Term.NUMBER_OPERAND, 1);
                    program.add(operand.value, 4);
                } else if (operand.kind == Term.PLACE) {
                    program.add(Term.PLACE_OPERAND, 1);
                    program.add(operand.where, 1);
                    program.add(operand.value, 1);
                } else {
                    program.add(Term.UNIT_OPERAND, 1);
                    program.add(operand.value, 2);
                }
                operand = operand.nextPart;
            }
        }
    }

    /**
     * The objects of a run, each a head and its fields, in one row that all runs use again. A
     * value is a long: its kind above, its number below. An object's number is where its head is.
     */
    private static final class Heap {
        static final int INT = 0, DEFINITION = 1, BARE_CONSTRUCTOR = 2, OBJECT = 3;
        static final int NOTHING = 0, FUNCTION = 1, PARTIAL = 2, CONSTRUCTOR = 3;
        static final int DELAYED = 4, UNDER_WAY = 5, SET = 6;
        static final int NO_OBJECT = -1;

        private static final int MOST_OBJECTS = 3000;
        private static final int HEAD = 4, WHAT = 1, LINK = 2, FIELDS = 3;

        int made;
        int set;
        private long[] cells;
        private int end;

        Heap() {
            cells = new long[256];
        }

        static long value(int kind, int number) {
            return ((long) kind << 32) | (number & 0xFFFFFFFFL);
        }

        static int kindOf(long value) {
            return (int) (value >> 32);
        }

        static int numberOf(long value) {
            return (int) value;
        }

        void empty() {
            made = 0;
            set = 0;
            end = 0;
        }

        /** A new object with fields yet to be put, or NO_OBJECT when there are too many. */
        int make(int kind, int what, int link, int fields) {
            if (made >= MOST_OBJECTS || fields < 0) {
                return NO_OBJECT;
            }
            int object = end;
            end = object + HEAD + fields;
            if (end > cells.length) {
                cells = Arrays.copyOf(cells, Math.max(end, 2 * cells.length));
            }
            put(object, kind);
            put(object + WHAT, what);
            put(object + LINK, link);
            put(object + FIELDS, fields);
            made++;
            return object;
        }

        void putField(int object, int field, long value) {
            put(object + HEAD + field, value);
        }

        long field(int object, int field) {
            int i = object + HEAD + field;
            return object >= 0 && i >= 0 && i < cells.length ? cells[i] : 0;
        }

        int fieldsOf(int object) {
            return (int) get(object + FIELDS);
        }

        /** The unit of a function or a delayed one, a constructor's tag. */
        int whatOf(int object) {
            return (int) get(object + WHAT);
        }

        int objectKind(long value) {
            return kindOf(value) == OBJECT ? (int) get(numberOf(value)) : NOTHING;
        }

        void markUnderWay(int object) {
            put(object, UNDER_WAY);
        }

        void setTo(int object, long value) {
            put(object, SET);
            put(object + LINK, value);
            set++;
        }

        /** What a delayed one was set to, else the value itself. */
        long settled(long value) {
            return objectKind(value) == SET ? get(numberOf(value) + LINK) : value;
        }

        boolean isFunction(long value) {
            int kind = objectKind(value);
            return kindOf(value) == DEFINITION || kind == FUNCTION || kind == PARTIAL;
        }

        boolean isConstructor(long value) {
            return kindOf(value) == BARE_CONSTRUCTOR || objectKind(value) == CONSTRUCTOR;
        }

        int tagOf(long constructor) {
            int number = numberOf(constructor);
            return kindOf(constructor) == BARE_CONSTRUCTOR ? number : whatOf(number);
        }

        int partsOf(long value) {
            return objectKind(value) == CONSTRUCTOR ? fieldsOf(numberOf(value)) : 0;
        }

        int unitOf(long function) {
            int number = numberOf(function);
            return kindOf(function) == DEFINITION ? number : whatOf(number);
        }

        /** How many arguments the function got already. */
        int gotBy(long function) {
            return objectKind(function) == PARTIAL ? fieldsOf(numberOf(function)) : 0;
        }

        /** The object whose fields the function's term uses: a partial one's is its link. */
        int selfOf(long function) {
            int number = numberOf(function);
            switch (objectKind(function)) {
                case FUNCTION:
                    return number;
                case PARTIAL:
                    return (int) get(number + LINK);
                default:
                    return NO_OBJECT;
            }
        }

        private long get(int i) {
            return i >= 0 && i < cells.length ? cells[i] : 0;
        }

        private void put(int i, long number) {
            if (i >= 0 && i < cells.length) {
                cells[i] = number;
            }
        }
    }

    /**
     * Where a term is done: its code, the object with its fields, its locals from base to top,
     * and the floor above which nothing is wanted by the terms around. Kept, with the reason,
     * while the value of another term is wanted.
     */
    private static final class Frame {
        static final int SET = 0, FUNCTION = 1, ARGUMENTS = 2, CHOICE = 3, FIRST = 4, SECOND = 5;

        int reason;
        int code;
        int self;
        int base;
        int top;
        int floor;
        long held;

        void copy(Frame other) {
            code = other.code;
            self = other.self;
            base = other.base;
            top = other.top;
            floor = other.floor;
        }
    }

    /** Does terms, a turn at a time; what waits for a value stands in frames, not in Java calls. */
    private static final class Machine {
        private static final int DO_TERM = 0, USE_VALUE = 1, APPLY = 2, ENDED = 3;
        private static final int BY_ZERO = -1, WRONG_KIND = -2, LOOP = -3, NO_ROOM = -4;
        private static final int NO_STEPS = -5, NO_ALTERNATIVE = -6, TOO_DEEP = -7;
        private static final int OWN_FAULTS = 100;
        private static final int DEEPEST = 150;
        private static final int DEFINITIONS = 40;
        private static final int ALTERNATIVE_HEAD = 5;
        private static final int MOST_TURNS = 10000000;

        final Heap heap;
        boolean hasRun;
        int steps;
        int deepest;
        private final Row slots;
        private final Row arguments;
        private final Row definitionObjects;
        private final Frame[] frames;
        private final Frame now;
        private Program program;
        private int limit;
        private int waiting;
        private int ground;
        private int argumentCount;
        private int fault;
        private int mode;
        private long value;

        Machine() {
            heap = new Heap();
            slots = new Row(256);
            arguments = new Row(8);
            definitionObjects = new Row(DEFINITIONS);
            frames = new Frame[DEEPEST + 1];
            for (int i = 0; i < frames.length; i++) {
                frames[i] = new Frame();
            }
            now = new Frame();
            program = new Program(new Row(1), -1);
        }

        void forget() {
            hasRun = false;
        }

        void start(Program code, int mostSteps) {
            program = code;
            limit = mostSteps;
            hasRun = true;
            steps = 0;
            deepest = 1;
            heap.empty();
            for (int i = 0; i < DEFINITIONS; i++) {
                definitionObjects.put(i, Heap.NO_OBJECT);
            }
            standAt(1);
            enter(code.mainUnit, Heap.NO_OBJECT, 0);
        }

        /** A delayed part's own term is at depth 1, so the frame that sets it counts for none. */
        void startPart(int i) {
            long wanted = heap.field(Heap.numberOf(value), i);
            standAt(0);
            giveValueOf(wanted);
        }

        /** With 20000 steps and at most 40 lets ahead of a term, turns stay far below their bound. */
        void go() {
            for (int turn = 0; turn < MOST_TURNS && mode != ENDED; turn++) {
                if (mode == DO_TERM) {
                    doTerm();
                } else if (mode == USE_VALUE) {
                    useValue();
                } else {
                    apply();
                }
            }
            if (mode != ENDED) {
                fail(NO_STEPS);
            }
        }

        int outcome() {
            if (fault != 0) {
                return fault;
            }
            if (Heap.kindOf(value) == Heap.INT) {
                return 0;
            }
            return heap.isFunction(value) ? 1 : 2;
        }

        int resultNumber() {
            if (fault != 0) {
                return 0;
            }
            if (Heap.kindOf(value) == Heap.INT) {
                return Heap.numberOf(value);
            }
            return heap.isFunction(value) ? takenBy(value) : heap.tagOf(value);
        }

        int resultParts() {
            return fault != 0 ? 0 : heap.partsOf(value);
        }

        private void standAt(int depth) {
            ground = depth;
            waiting = 0;
            fault = 0;
            mode = DO_TERM;
            now.base = 0;
            now.top = 0;
            now.floor = 0;
        }

        private void doTerm() {
            int at = now.code;
            switch (program.codeAt(at)) {
                case Term.NUMBER:
                    give(Heap.value(Heap.INT, program.fourAt(at + 1)));
                    break;
                case Term.PLACE:
                    giveValueOf(whatIsAt(at + 1));
                    break;
                case Term.CALL:
                    want(Frame.FUNCTION, 0, at + 2);
                    break;
                case Term.FUNCTION:
                    give(makeUnit(program.twoAt(at + 1)));
                    break;
                case Term.LET:
                    doLet(at + 1);
                    break;
                case Term.CONSTRUCTOR:
                    doConstructor(at + 1);
                    break;
                case Term.CHOICE:
                    want(Frame.CHOICE, 0, at + 1);
                    break;
                case Term.OPERATOR:
                    want(Frame.FIRST, 0, at + 2);
                    break;
                default:
                    fail(OWN_FAULTS + program.codeAt(at + 1));
            }
        }

        private void useValue() {
            if (waiting <= 0 || waiting > frames.length) {
                mode = ENDED;
                return;
            }
            waiting--;
            Frame frame = frames[waiting];
            now.copy(frame);
            switch (frame.reason) {
                case Frame.SET:
                    heap.setTo((int) frame.held, value);
                    break;
                case Frame.FUNCTION:
                    callValue();
                    break;
                case Frame.ARGUMENTS:
                    callWithRest((int) frame.held);
                    break;
                case Frame.CHOICE:
                    choose();
                    break;
                case Frame.FIRST:
                    doSecond();
                    break;
                default:
                    operate(program.codeAt(now.code + 1), frame.held, value);
            }
        }

        /** A fault stays: what is given after one, in the same turn, is for nothing. */
        private void give(long given) {
            if (mode != ENDED) {
                value = given;
                mode = USE_VALUE;
            }
        }

        private void fail(int code) {
            if (mode != ENDED) {
                fault = code;
                mode = ENDED;
            }
        }

        private void turnTo(int next) {
            if (mode != ENDED) {
                mode = next;
            }
        }

        private boolean takeStep() {
            if (steps >= limit) {
                fail(NO_STEPS);
                return false;
            }
            steps++;
            return true;
        }

        /** Goes one deeper; what waits keeps all slots below its top. */
        private boolean deepen(int reason, long held) {
            if (waiting + ground >= DEEPEST || waiting >= frames.length) {
                fail(TOO_DEEP);
                return false;
            }
            Frame frame = frames[waiting];
            frame.copy(now);
            frame.reason = reason;
            frame.held = held;
            waiting++;
            deepest = Math.max(deepest, waiting + ground);
            now.floor = now.top;
            return true;
        }

        private void want(int reason, long held, int code) {
            if (deepen(reason, held)) {
                now.code = code;
                turnTo(DO_TERM);
            }
        }

        /** Begins a unit's term at the floor, where its parameters are already. */
        private void enter(int unit, int self, int parameters) {
            now.self = self;
            now.base = now.floor;
            now.top = now.floor + parameters;
            now.code = program.termOf(unit);
            turnTo(DO_TERM);
        }

        private void giveValueOf(long there) {
            int kind = heap.objectKind(there);
            int object = Heap.numberOf(there);
            if (kind == Heap.UNDER_WAY) {
                fail(LOOP);
            } else if (kind != Heap.DELAYED) {
                give(heap.settled(there));
            } else if (deepen(Frame.SET, object)) {
                heap.markUnderWay(object);
                enter(heap.whatOf(object), object, 0);
            }
        }

        private long whatIsAt(int at) {
            int where = program.codeAt(at);
            int number = program.codeAt(at + 1);
            if (where != Term.DEFINITION) {
                return boundAt(where, number);
            }
            int unit = program.definitionUnit(number);
            if (program.parametersOf(unit) > 0) {
                return Heap.value(Heap.DEFINITION, unit);
            }
            int object = definitionObjects.at(number);
            if (object == Heap.NO_OBJECT) {
                object = heap.make(Heap.DELAYED, unit, Heap.NO_OBJECT, 0);
                definitionObjects.put(number, object);
            }
            return objectValue(object);
        }

        private long boundAt(int where, int number) {
            return where == Term.LOCAL ? slots.longAt(now.base + number) : heap.field(now.self, number);
        }

        private long objectValue(int object) {
            if (object == Heap.NO_OBJECT) {
                fail(NO_ROOM);
            }
            return Heap.value(Heap.OBJECT, object);
        }

        /**
         * A let's unit may capture the local that it becomes, so the object is in the slot of the
         * next local before its fields are put; for all others that slot is free.
         */
        private long makeUnit(int unit) {
            int fields = program.fieldsOf(unit);
            int places = program.fieldPlaces(unit);
            boolean function = program.codeAt(program.unitStart(unit)) == Unit.FUNCTION;
            int object = heap.make(function ? Heap.FUNCTION : Heap.DELAYED, unit, Heap.NO_OBJECT, fields);
            long made = objectValue(object);
            slots.put(now.top, made);
            for (int i = 0; i < fields && object != Heap.NO_OBJECT; i++) {
                int place = places + 2 * i;
                heap.putField(object, i, boundAt(program.codeAt(place), program.codeAt(place + 1)));
            }
            return made;
        }

        /** Makes operands as arguments; where the code behind them is. */
        private int makeArguments(int count, int start) {
            int at = start;
            for (int i = 0; i < count && mode != ENDED; i++) {
                int kind = program.codeAt(at);
                if (kind == Term.NUMBER_OPERAND) {
                    arguments.put(i, Heap.value(Heap.INT, program.fourAt(at + 1)));
                } else if (kind == Term.PLACE_OPERAND) {
                    arguments.put(i, whatIsAt(at + 1));
                } else {
                    arguments.put(i, makeUnit(program.twoAt(at + 1)));
                }
                at += kind == Term.NUMBER_OPERAND ? 5 : 3;
            }
            argumentCount = count;
            return at;
        }

        private void doLet(int at) {
            now.code = makeArguments(1, at);
            slots.put(now.top, arguments.longAt(0));
            now.top++;
        }

        private void doConstructor(int at) {
            int tag = program.twoAt(at);
            int parts = program.codeAt(at + 2);
            if (parts == 0) {
                give(Heap.value(Heap.BARE_CONSTRUCTOR, tag));
                return;
            }
            makeArguments(parts, at + 3);
            if (mode != ENDED) {
                give(makeWithArguments(Heap.CONSTRUCTOR, tag, Heap.NO_OBJECT, Heap.NO_OBJECT));
            }
        }

        /** A new object with the fields of another one, if any, and the arguments behind them. */
        private long makeWithArguments(int kind, int what, int link, int other) {
            int before = other == Heap.NO_OBJECT ? 0 : heap.fieldsOf(other);
            int object = heap.make(kind, what, link, before + argumentCount);
            for (int i = 0; i < before && object != Heap.NO_OBJECT; i++) {
                heap.putField(object, i, heap.field(other, i));
            }
            for (int i = 0; i < argumentCount && object != Heap.NO_OBJECT; i++) {
                heap.putField(object, before + i, arguments.longAt(i));
            }
            return objectValue(object);
        }

        private void callValue() {
            if (isCallable()) {
                makeArguments(program.codeAt(now.code + 1), program.behindTerm(now.code + 2));
                turnTo(APPLY);
            }
        }

        /** The value gets the arguments that were left over; they waited from the floor on. */
        private void callWithRest(int count) {
            if (isCallable()) {
                for (int i = 0; i < count; i++) {
                    arguments.put(i, slots.longAt(now.floor + i));
                }
                argumentCount = count;
                turnTo(APPLY);
            }
        }

        private boolean isCallable() {
            if (!takeStep()) {
                return false;
            }
            if (!heap.isFunction(value)) {
                fail(WRONG_KIND);
                return false;
            }
            return true;
        }

        private int takenBy(long function) {
            return program.parametersOf(heap.unitOf(function)) - heap.gotBy(function);
        }

        private void apply() {
            long function = value;
            int taken = takenBy(function);
            int unit = heap.unitOf(function);
            int self = heap.selfOf(function);
            int got = heap.gotBy(function);
            int other = got > 0 ? Heap.numberOf(function) : Heap.NO_OBJECT;
            if (argumentCount < taken) {
                give(makeWithArguments(Heap.PARTIAL, unit, self, other));
                return;
            }
            if (argumentCount > taken && !keepRest(taken)) {
                return;
            }
            for (int i = 0; i < got; i++) {
                slots.put(now.floor + i, heap.field(other, i));
            }
            for (int i = 0; i < taken; i++) {
                slots.put(now.floor + got + i, arguments.longAt(i));
            }
            enter(unit, self, got + taken);
        }

        private boolean keepRest(int taken) {
            int left = argumentCount - taken;
            for (int i = 0; i < left; i++) {
                slots.put(now.floor + i, arguments.longAt(taken + i));
            }
            now.top = now.floor + left;
            return deepen(Frame.ARGUMENTS, left);
        }

        private void choose() {
            if (!takeStep()) {
                return;
            }
            if (!heap.isConstructor(value)) {
                fail(WRONG_KIND);
                return;
            }
            int tag = heap.tagOf(value);
            int parts = heap.partsOf(value);
            int countAt = program.behindTerm(now.code + 1);
            int count = program.codeAt(countAt);
            int at = countAt + 1;
            for (int i = 0; i < count; i++) {
                int k = program.twoAt(at);
                if (k == Term.ANY_TAG) {
                    doAlternative(at, 0);
                    return;
                }
                if (k == tag && program.codeAt(at + 2) == parts) {
                    doAlternative(at, parts);
                    return;
                }
                at += ALTERNATIVE_HEAD + program.twoAt(at + 3);
            }
            fail(NO_ALTERNATIVE);
        }

        private void doAlternative(int at, int parts) {
            for (int i = 0; i < parts; i++) {
                slots.put(now.top, heap.field(Heap.numberOf(value), i));
                now.top++;
            }
            now.code = at + ALTERNATIVE_HEAD;
            turnTo(DO_TERM);
        }

        private void doSecond() {
            int second = program.behindTerm(now.code + 2);
            if (program.codeAt(now.code + 1) != '!') {
                want(Frame.SECOND, value, second);
            } else if (takeStep()) {
                now.code = second;
                turnTo(DO_TERM);
            }
        }

        private void operate(int sign, long first, long second) {
            if (!takeStep()) {
                return;
            }
            if (Heap.kindOf(first) != Heap.INT || Heap.kindOf(second) != Heap.INT) {
                fail(WRONG_KIND);
                return;
            }
            int a = Heap.numberOf(first);
            int b = Heap.numberOf(second);
            if (sign == '<' || sign == '=') {
                boolean holds = sign == '<' ? a < b : a == b;
                give(Heap.value(Heap.BARE_CONSTRUCTOR, holds ? 1 : 0));
            } else if (b == 0 && (sign == '/' || sign == '%')) {
                fail(BY_ZERO);
            } else {
                give(Heap.value(Heap.INT, reckon(sign, a, b)));
            }
        }

        private static int reckon(int sign, int a, int b) {
            switch (sign) {
                case '+':
                    return a + b;
                case '-':
                    return a - b;
                case '*':
                    return a * b;
                case '/':
                    return b == 0 ? 0 : a / b;
                default:
                    return b == 0 ? 0 : a % b;
            }
        }
    }
}
