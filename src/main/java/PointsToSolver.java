import java.util.Arrays;

/**
 * An inclusion-based (Andersen-style) points-to analysis with field-sensitive objects and
 * indirect calls. The document DOC.md tells what each call answers.
 *
 * <p>Inside, a location is a slot: variable v is slot v, and field f of object o is slot
 * 16 + 4 * o + f. A fact (location, object) is the number slot * 10 + object.
 */
public final class PointsToSolver {
    public static final int INVALID = -1;
    public static final int ABSENT = -2;
    public static final int NEW = 0, COPY = 1, LOAD = 2, STORE = 3, CALL = 4;

    private static final int MAX_BYTES = 600;
    private static final int BYTES_APPENDED = 20;
    private static final int MAX_VARIABLES = 16;
    private static final int MAX_OBJECTS = 10;
    private static final int MAX_FIELDS = 4;
    private static final int MAX_CONSTRAINTS = 30;
    private static final int MAX_CHANGES = 12;
    private static final int SNAPSHOTS = 2;
    private static final int FIRST_FIELD_LOCATION = 100;
    private static final int FIELD_SLOTS = MAX_OBJECTS * MAX_FIELDS;
    private static final int SLOTS = MAX_VARIABLES + FIELD_SLOTS;
    private static final int FACTS = SLOTS * MAX_OBJECTS;

    /** What an inner search answers when it finds nothing. */
    private static final int NONE = -1;

    /** The statement that declares a function; it is no constraint, but is read like one. */
    private static final int FUN = 5;
    private static final int STATEMENTS = 6;

    private static final int VARIABLE = 0, OBJECT = 1, FIELD = 2, NOTHING = 3;
    private static final int OPERANDS = 3;

    /** What stands at each of the three operand positions, statement by statement. */
    private static final int[] OPERAND_TYPES = {
        VARIABLE, OBJECT, NOTHING,
        VARIABLE, VARIABLE, NOTHING,
        VARIABLE, VARIABLE, FIELD,
        VARIABLE, FIELD, VARIABLE,
        VARIABLE, VARIABLE, VARIABLE,
        OBJECT, VARIABLE, VARIABLE,
    };

    /** new, copy, load, store, call and fun, packed as the parser packs a word. */
    private static final long[] KEYWORDS = {
        0x6e6577L, 0x636f7079L, 0x6c6f6164L, 0x73746f7265L, 0x63616c6cL, 0x66756eL,
    };

    private static final int LONGEST_WORD = 6;
    private static final int BITS_PER_LETTER = 8;

    /** Every variable with a longest name, and behind it every object with a longest name. */
    private static final int MAX_DUMP =
        MAX_VARIABLES * (LONGEST_WORD + MAX_OBJECTS * (1 + LONGEST_WORD) + 1);

    private final Parser parser = new Parser();

    /** A parse writes into the spare program, so that an error leaves the current one alone. */
    private Program program = new Program();
    private Program spare = new Program();

    private final History history = new History();
    private final ConstraintList[] snapshots = {new ConstraintList(), new ConstraintList()};
    private int savedSlots = 0;

    /** Belongs to the program at all times: whoever changes the program calls settle. */
    private final Solution solution = new Solution();

    /** These two are worked out again only when a query finds them stale. */
    private final CopyGraph graph = new CopyGraph();
    private final Dump dump = new Dump();
    private boolean graphStale = true;
    private boolean dumpStale = true;

    private final Trial trial = new Trial();

    public PointsToSolver() {
    }

    // ---- input

    public int append(int a, int b, int c, int d, int e) {
        if (parser.buffered + BYTES_APPENDED > MAX_BYTES) {
            return INVALID;
        }
        parser.appendWord(a);
        parser.appendWord(b);
        parser.appendWord(c);
        parser.appendWord(d);
        parser.appendWord(e);
        return parser.buffered;
    }

    public int parse(int length) {
        if (length < 0 || length > parser.buffered) {
            return INVALID;
        }
        int error = parser.read(length, spare);
        if (error != Parser.NO_ERROR) {
            return -2 - error;
        }
        Program replaced = program;
        program = spare;
        spare = replaced;
        history.clear();
        savedSlots = 0;
        settle();
        return program.list.count;
    }

    public int bufferLength() {
        return parser.buffered;
    }

    // ---- the program

    public int variableCount() {
        return program.variables.count;
    }

    public int objectCount() {
        return program.objects.count;
    }

    public int fieldCount() {
        return program.fields.count;
    }

    public int constraintCount() {
        return program.list.count;
    }

    public int enabledConstraints() {
        return program.list.enabled;
    }

    public int functions() {
        return program.functionSet;
    }

    public int kindOf(int constraint) throws IndexOutOfBoundsException {
        if (!isConstraint(constraint)) {
            throw new IndexOutOfBoundsException("no such constraint");
        }
        return program.list.kinds[constraint];
    }

    public int operand(int constraint, int position) throws IndexOutOfBoundsException {
        if (!isConstraint(constraint)) {
            throw new IndexOutOfBoundsException("no such constraint");
        }
        if (position < 0 || position >= OPERANDS) {
            throw new IndexOutOfBoundsException("no such position");
        }
        return program.list.operandAt(constraint, position);
    }

    public int parameterOf(int object) {
        if (!isObject(object)) {
            return INVALID;
        }
        return program.isFunction(object) ? program.parameters[object] : ABSENT;
    }

    public int resultOf(int object) {
        if (!isObject(object)) {
            return INVALID;
        }
        return program.isFunction(object) ? program.results[object] : ABSENT;
    }

    // ---- the solution

    public int factCount() {
        return solution.total;
    }

    public int roundCount() {
        return solution.productiveRounds;
    }

    public int pointsTo(int location) {
        int slot = program.slotAt(location);
        return slot == NONE ? INVALID : solution.sets[slot];
    }

    public int pointersTo(int object) {
        if (!isObject(object)) {
            return INVALID;
        }
        int pointers = 0;
        for (int variable = 0; variable < MAX_VARIABLES; variable++) {
            if (contains(solution.sets[variable], object)) {
                pointers |= 1 << variable;
            }
        }
        return pointers;
    }

    public int commonObjects(int first, int second) {
        int firstSlot = program.slotAt(first);
        int secondSlot = program.slotAt(second);
        if (firstSlot == NONE || secondSlot == NONE) {
            return INVALID;
        }
        return solution.sets[firstSlot] & solution.sets[secondSlot];
    }

    public int reachableObjects(int object) {
        if (!isObject(object)) {
            return INVALID;
        }
        int reached = 1 << object;
        // A path that visits no object twice follows fewer fields than there are objects.
        for (int step = 1; step < MAX_OBJECTS; step++) {
            reached |= solution.fieldTargets(reached);
        }
        return reached;
    }

    // ---- derivations

    public int roundOf(int location, int object) {
        int fact = findFact(location, object);
        return fact < 0 ? fact : solution.rounds[fact];
    }

    public int derivationCount(int location, int object) {
        int fact = findFact(location, object);
        if (fact < 0) {
            return fact == ABSENT ? 0 : INVALID;
        }
        int slot = program.slotAt(location);
        int derivations = 0;
        for (int constraint = 0; constraint < program.list.count; constraint++) {
            if (program.list.isEnabled(constraint)) {
                derivations += solution.countDerivations(program, constraint, slot, object);
            }
        }
        return derivations;
    }

    public int explanationLength(int location, int object) {
        int fact = findFact(location, object);
        return fact < 0 ? fact : solution.lengths[fact];
    }

    public int explanationConstraint(int location, int object, int step) {
        int fact = findStep(location, object, step);
        return fact < 0 ? fact : solution.constraints[fact];
    }

    public int explanationSource(int location, int object, int step) {
        int fact = findStep(location, object, step);
        if (fact < 0) {
            return fact;
        }
        int source = solution.sources[fact];
        return source == NONE ? ABSENT : locationOf(source);
    }

    public int explanationVia(int location, int object, int step) {
        int fact = findStep(location, object, step);
        if (fact < 0) {
            return fact;
        }
        int via = solution.vias[fact];
        return via == NONE ? ABSENT : via;
    }

    public int proof(int location, int object) {
        int fact = findFact(location, object);
        if (fact < 0) {
            return fact == ABSENT ? 0 : INVALID;
        }
        return solution.proofs[fact];
    }

    public int necessaryConstraints(int location, int object) {
        int fact = findFact(location, object);
        if (fact < 0) {
            return fact == ABSENT ? 0 : INVALID;
        }
        int slot = program.slotAt(location);
        int necessary = 0;
        for (int constraint = 0; constraint < program.list.count; constraint++) {
            // A constraint outside the fact's proof is not necessary: the proof does without it.
            if (contains(solution.proofs[fact], constraint)) {
                trial.solve(program, program.list.enabled & ~(1 << constraint));
                if (!contains(trial.sets[slot], object)) {
                    necessary |= 1 << constraint;
                }
            }
        }
        return necessary;
    }

    // ---- copy edges

    public int edgeCount() {
        return graphed().countEdges();
    }

    public int hasEdge(int from, int to) {
        int fromSlot = program.slotAt(from);
        int toSlot = program.slotAt(to);
        if (fromSlot == NONE || toSlot == NONE || fromSlot == toSlot) {
            return INVALID;
        }
        return holds(graphed().targets[fromSlot], toSlot) ? 1 : 0;
    }

    public int distance(int from, int to) {
        int fromSlot = program.slotAt(from);
        int toSlot = program.slotAt(to);
        if (fromSlot == NONE || toSlot == NONE) {
            return INVALID;
        }
        return graphed().shortestPath(fromSlot, toSlot);
    }

    public int componentSize(int location) {
        int slot = program.slotAt(location);
        return slot == NONE ? INVALID : Long.bitCount(graphed().components[slot]);
    }

    public int representative(int location) {
        int slot = program.slotAt(location);
        return slot == NONE ? INVALID : locationOf(graphed().lowestOf(slot));
    }

    public int cyclicComponentCount() {
        return graphed().countComponents(2);
    }

    public int condensedNodeCount() {
        return graphed().countComponents(1);
    }

    public int condensedEdgeCount() {
        return graphed().countCondensedEdges();
    }

    // ---- calls

    public int callTargets(int constraint) {
        if (!isConstraint(constraint) || program.list.kinds[constraint] != CALL) {
            return INVALID;
        }
        return targetsOfCall(constraint);
    }

    public int callersOf(int object) {
        if (!isObject(object)) {
            return INVALID;
        }
        int callers = 0;
        for (int constraint = 0; constraint < program.list.count; constraint++) {
            if (contains(targetsOfCall(constraint), object)) {
                callers |= 1 << constraint;
            }
        }
        return callers;
    }

    public int uncalledFunctions() {
        int uncalled = program.functionSet;
        for (int constraint = 0; constraint < program.list.count; constraint++) {
            uncalled &= ~targetsOfCall(constraint);
        }
        return uncalled;
    }

    // ---- what if

    public int factCountIfToggled(int constraint) {
        if (!isConstraint(constraint)) {
            return INVALID;
        }
        trial.solve(program, program.list.enabled ^ (1 << constraint));
        return trial.countFacts();
    }

    public int factCountWithout(int constraints) {
        if ((constraints & ~program.list.all()) != 0) {
            return INVALID;
        }
        trial.solve(program, program.list.enabled & ~constraints);
        return trial.countFacts();
    }

    public int mostInfluentialConstraint() {
        int most = ABSENT;
        int mostLost = 0;
        for (int constraint = 0; constraint < program.list.count; constraint++) {
            if (program.list.isEnabled(constraint)) {
                int lost = factsLostWithout(constraint);
                if (lost > mostLost) {
                    most = constraint;
                    mostLost = lost;
                }
            }
        }
        return most;
    }

    public int redundantConstraintCount() {
        int redundant = 0;
        for (int constraint = 0; constraint < program.list.count; constraint++) {
            if (program.list.isEnabled(constraint) && factsLostWithout(constraint) == 0) {
                redundant++;
            }
        }
        return redundant;
    }

    // ---- the dump

    public int dumpLength() {
        return dumped().length;
    }

    public int dumpByte(int index) {
        Dump now = dumped();
        return index < 0 || index >= now.length ? INVALID : now.text[index];
    }

    // ---- changes

    public int addConstraint(int kind, int first, int second, int third) {
        if (kind < NEW || kind > CALL || !program.mayStandAt(kind, 0, first)
                || !program.mayStandAt(kind, 1, second) || !program.mayStandAt(kind, 2, third)) {
            return INVALID;
        }
        if (program.list.isFull()) {
            return ABSENT;
        }
        program.list.add(kind, first, second, third);
        history.push(History.ADDITION);
        settle();
        return program.list.count - 1;
    }

    public boolean setEnabled(int constraint, boolean enabled) {
        if (!isConstraint(constraint) || program.list.isEnabled(constraint) == enabled) {
            return false;
        }
        program.list.toggle(constraint);
        history.push(constraint);
        settle();
        return true;
    }

    public int undo() {
        if (history.depth == 0) {
            return ABSENT;
        }
        int change = history.pop();
        if (change == History.ADDITION) {
            program.list.removeLast();
        } else {
            program.list.toggle(change);
        }
        settle();
        return history.depth;
    }

    public int undoDepth() {
        return history.depth;
    }

    public boolean saveSnapshot(int slot) {
        if (slot < 0 || slot >= SNAPSHOTS) {
            return false;
        }
        snapshots[slot].copyFrom(program.list);
        savedSlots |= 1 << slot;
        return true;
    }

    public boolean restoreSnapshot(int slot) {
        if (slot < 0 || slot >= SNAPSHOTS || !contains(savedSlots, slot)) {
            return false;
        }
        program.list.copyFrom(snapshots[slot]);
        history.clear();
        settle();
        return true;
    }

    // ---- the workings

    private boolean isConstraint(int constraint) {
        return constraint >= 0 && constraint < program.list.count;
    }

    private boolean isObject(int object) {
        return object >= 0 && object < program.objects.count;
    }

    private void settle() {
        solution.solve(program);
        graphStale = true;
        dumpStale = true;
    }

    private CopyGraph graphed() {
        if (graphStale) {
            graph.build(program, solution);
            graphStale = false;
        }
        return graph;
    }

    private Dump dumped() {
        if (dumpStale) {
            dump.write(program, solution);
            dumpStale = false;
        }
        return dump;
    }

    /** INVALID if the location or the object does not exist, ABSENT if it is not a fact. */
    private int findFact(int location, int object) {
        int slot = program.slotAt(location);
        if (slot == NONE || !isObject(object)) {
            return INVALID;
        }
        return contains(solution.sets[slot], object) ? factOf(slot, object) : ABSENT;
    }

    /** The fact that a step of an explanation derives, or INVALID or ABSENT. */
    private int findStep(int location, int object, int step) {
        int fact = findFact(location, object);
        if (fact == INVALID || step < 0) {
            return INVALID;
        }
        if (fact == ABSENT || step >= solution.lengths[fact]) {
            return ABSENT;
        }
        for (int passed = 0; passed < step; passed++) {
            int source = solution.sources[fact];
            if (source == NONE) {
                return ABSENT;
            }
            fact = factOf(source, object);
        }
        return fact;
    }

    /** No targets for a disabled constraint or one that is not a call. */
    private int targetsOfCall(int constraint) {
        if (program.list.kinds[constraint] != CALL || !program.list.isEnabled(constraint)) {
            return 0;
        }
        return program.viasIn(solution.sets, constraint);
    }

    private int factsLostWithout(int constraint) {
        // Without a constraint that no fact's primary derivation uses, every proof still stands.
        if (!contains(solution.used, constraint)) {
            return 0;
        }
        trial.solve(program, program.list.enabled & ~(1 << constraint));
        return solution.total - trial.countFacts();
    }

    private static boolean contains(int set, int number) {
        return (set >>> number & 1) != 0;
    }

    private static boolean holds(long set, int slot) {
        return (set >>> slot & 1L) != 0;
    }

    private static int fieldSlot(int object, int field) {
        return MAX_VARIABLES + object * MAX_FIELDS + field;
    }

    private static int locationOf(int slot) {
        return slot < MAX_VARIABLES ? slot : slot - MAX_VARIABLES + FIRST_FIELD_LOCATION;
    }

    private static int factOf(int slot, int object) {
        return slot * MAX_OBJECTS + object;
    }

    private static int typeAt(int statement, int position) {
        return OPERAND_TYPES[statement * OPERANDS + position];
    }

    /** The names of one name space, numbered in the order of their first use. */
    private static final class NameTable {
        /** A row for the largest name space does for each of them. */
        private final long[] words = new long[MAX_VARIABLES];
        private final int limit;
        private int count = 0;

        private NameTable(int limit) {
            this.limit = Math.min(limit, MAX_VARIABLES);
        }

        /** The number of a name, which is new if need be; NONE if there is no room for it. */
        private int numberOf(long word) {
            for (int number = 0; number < count; number++) {
                if (words[number] == word) {
                    return number;
                }
            }
            if (count >= limit) {
                return NONE;
            }
            words[count] = word;
            count++;
            return count - 1;
        }
    }

    /** The constraints, their operands in the order of the text, and which are enabled. */
    private static final class ConstraintList {
        private final int[] kinds = new int[MAX_CONSTRAINTS];
        private final int[] firsts = new int[MAX_CONSTRAINTS];
        private final int[] seconds = new int[MAX_CONSTRAINTS];
        private final int[] thirds = new int[MAX_CONSTRAINTS];
        private int count = 0;
        private int enabled = 0;

        private void clear() {
            count = 0;
            enabled = 0;
        }

        private boolean isFull() {
            return count >= MAX_CONSTRAINTS;
        }

        private boolean isEnabled(int constraint) {
            return contains(enabled, constraint);
        }

        private int all() {
            return (1 << count) - 1;
        }

        private int operandAt(int constraint, int position) {
            switch (position) {
                case 0:
                    return firsts[constraint];
                case 1:
                    return seconds[constraint];
                default:
                    return thirds[constraint];
            }
        }

        private void add(int kind, int first, int second, int third) {
            if (isFull()) {
                return;
            }
            kinds[count] = kind;
            firsts[count] = first;
            seconds[count] = second;
            thirds[count] = third;
            enabled |= 1 << count;
            count++;
        }

        private void removeLast() {
            if (count > 0) {
                count--;
                enabled &= ~(1 << count);
            }
        }

        private void toggle(int constraint) {
            enabled ^= 1 << constraint;
        }

        private void copyFrom(ConstraintList other) {
            System.arraycopy(other.kinds, 0, kinds, 0, MAX_CONSTRAINTS);
            System.arraycopy(other.firsts, 0, firsts, 0, MAX_CONSTRAINTS);
            System.arraycopy(other.seconds, 0, seconds, 0, MAX_CONSTRAINTS);
            System.arraycopy(other.thirds, 0, thirds, 0, MAX_CONSTRAINTS);
            count = other.count;
            enabled = other.enabled;
        }
    }

    /**
     * The declarations and the constraints. A constraint other than new copies whole sets: a
     * flow is one such copying, from a source slot into a target slot. Load, store and call
     * have flows for each via object, a call two: first the argument's, then the result's.
     */
    private static final class Program {
        private static final int ARGUMENT = 0;

        private final NameTable variables = new NameTable(MAX_VARIABLES);
        private final NameTable objects = new NameTable(MAX_OBJECTS);
        private final NameTable fields = new NameTable(MAX_FIELDS);
        private final int[] parameters = new int[MAX_OBJECTS];
        private final int[] results = new int[MAX_OBJECTS];
        private int functionSet = 0;
        private final ConstraintList list = new ConstraintList();

        private void clear() {
            variables.count = 0;
            objects.count = 0;
            fields.count = 0;
            functionSet = 0;
            list.clear();
        }

        private boolean isFunction(int object) {
            return contains(functionSet, object);
        }

        private void declareFunction(int object, int parameter, int result) {
            functionSet |= 1 << object;
            parameters[object] = parameter;
            results[object] = result;
        }

        /** NONE if there is no such location. */
        private int slotAt(int location) {
            if (location >= 0 && location < variables.count) {
                return location;
            }
            if (location < FIRST_FIELD_LOCATION
                    || location >= FIRST_FIELD_LOCATION + FIELD_SLOTS) {
                return NONE;
            }
            int number = location - FIRST_FIELD_LOCATION;
            int object = number / MAX_FIELDS;
            int field = number % MAX_FIELDS;
            boolean exists = object < objects.count && field < fields.count;
            return exists ? fieldSlot(object, field) : NONE;
        }

        private boolean mayStandAt(int kind, int position, int number) {
            switch (typeAt(kind, position)) {
                case VARIABLE:
                    return number >= 0 && number < variables.count;
                case OBJECT:
                    return number >= 0 && number < objects.count;
                case FIELD:
                    return number >= 0 && number < fields.count;
                default:
                    return number == ABSENT;
            }
        }

        /** The variable whose set supplies a constraint's via objects, or NONE. */
        private int viaSlot(int constraint) {
            switch (list.kinds[constraint]) {
                case LOAD:
                case CALL:
                    return list.seconds[constraint];
                case STORE:
                    return list.firsts[constraint];
                default:
                    return NONE;
            }
        }

        /**
         * The via objects of a constraint. A copy has none, but is given object 0 as a stand-in,
         * so that it runs once; a new, which copies nothing, gets an empty set.
         */
        private int viasIn(int[] sets, int constraint) {
            int kind = list.kinds[constraint];
            int slot = viaSlot(constraint);
            if (slot == NONE) {
                return kind == COPY ? 1 : 0;
            }
            return kind == CALL ? sets[slot] & functionSet : sets[slot];
        }

        private int flowCount(int constraint) {
            return list.kinds[constraint] == CALL ? 2 : 1;
        }

        private int flowSource(int constraint, int via, int flow) {
            switch (list.kinds[constraint]) {
                case LOAD:
                    return fieldSlot(via, list.thirds[constraint]);
                case STORE:
                    return list.thirds[constraint];
                case CALL:
                    return flow == ARGUMENT ? list.thirds[constraint] : results[via];
                default:
                    return list.seconds[constraint];
            }
        }

        private int flowTarget(int constraint, int via, int flow) {
            switch (list.kinds[constraint]) {
                case STORE:
                    return fieldSlot(via, list.seconds[constraint]);
                case CALL:
                    return flow == ARGUMENT ? parameters[via] : list.firsts[constraint];
                default:
                    return list.firsts[constraint];
            }
        }
    }

    /** Holds the input buffer, and reads its text into a program up to the first error. */
    private static final class Parser {
        private static final int NO_ERROR = 0;
        private static final int SYNTAX = 1, DUPLICATE_FUNCTION = 2, TOO_MANY = 3;

        private static final int END = 0, WORD = 1, SEMICOLON = 2, ILLEGAL = 3;

        private final byte[] text = new byte[MAX_BYTES];
        private int buffered = 0;
        private int length = 0;
        private int position = 0;
        private int token = END;
        private int tokenStart = 0;
        private long word = 0;
        private int error = NO_ERROR;
        private final int[] operands = new int[OPERANDS];

        private void appendWord(int word) {
            for (int shift = 24; shift >= 0; shift -= 8) {
                if (buffered < MAX_BYTES) {
                    text[buffered] = (byte) (word >>> shift);
                    buffered++;
                }
            }
        }

        /** Empties the buffer; answers NO_ERROR, or 8 * offset + kind of the first error. */
        private int read(int count, Program into) {
            length = Math.min(count, buffered);
            buffered = 0;
            position = 0;
            error = NO_ERROR;
            into.clear();
            nextToken();
            // Every statement takes bytes, so there are no more statements than bytes.
            for (int read = 0; read < MAX_BYTES && token != END && error == NO_ERROR; read++) {
                readStatement(into);
            }
            return error;
        }

        private void readStatement(Program into) {
            int statement = keyword();
            if (statement == NONE) {
                fail(SYNTAX);
                return;
            }
            if (statement != FUN && into.list.isFull()) {
                fail(TOO_MANY);
                return;
            }
            nextToken();
            for (int place = 0; place < OPERANDS && error == NO_ERROR; place++) {
                operands[place] = readOperand(into, statement, typeAt(statement, place));
            }
            if (error == NO_ERROR && token != SEMICOLON) {
                fail(SYNTAX);
            }
            if (error == NO_ERROR) {
                accept(into, statement);
                nextToken();
            }
        }

        private int readOperand(Program into, int statement, int type) {
            if (type == NOTHING) {
                return ABSENT;
            }
            if (token != WORD || keyword() != NONE) {
                fail(SYNTAX);
                return NONE;
            }
            int number = namesOf(into, type).numberOf(word);
            if (number == NONE) {
                fail(TOO_MANY);
            } else if (statement == FUN && type == OBJECT && into.isFunction(number)) {
                fail(DUPLICATE_FUNCTION);
            } else {
                nextToken();
            }
            return number;
        }

        private static NameTable namesOf(Program into, int type) {
            switch (type) {
                case OBJECT:
                    return into.objects;
                case FIELD:
                    return into.fields;
                default:
                    return into.variables;
            }
        }

        private void accept(Program into, int statement) {
            if (statement == FUN) {
                into.declareFunction(operands[0], operands[1], operands[2]);
            } else {
                into.list.add(statement, operands[0], operands[1], operands[2]);
            }
        }

        private void fail(int kind) {
            error = 8 * tokenStart + kind;
        }

        /** The statement that the token begins, or NONE. */
        private int keyword() {
            for (int statement = 0; statement < STATEMENTS; statement++) {
                if (token == WORD && KEYWORDS[statement] == word) {
                    return statement;
                }
            }
            return NONE;
        }

        private void nextToken() {
            while (position < length && isSpace(text[position])) {
                position++;
            }
            tokenStart = position;
            if (position >= length) {
                token = END;
            } else if (isLetter(text[position])) {
                readWord();
            } else {
                token = text[position] == ';' ? SEMICOLON : ILLEGAL;
                position++;
            }
        }

        private void readWord() {
            word = 0;
            while (position < length && isLetter(text[position])) {
                word = word << BITS_PER_LETTER | text[position];
                position++;
            }
            token = position - tokenStart <= LONGEST_WORD ? WORD : ILLEGAL;
        }

        private static boolean isSpace(byte sign) {
            return sign == ' ' || sign == '\n';
        }

        private static boolean isLetter(byte sign) {
            return sign >= 'a' && sign <= 'z';
        }
    }

    /**
     * The solution with each fact's round and primary derivation. The constraints, via objects
     * and flows are tried in the order by which the document ranks derivations, and they read
     * the sets of the round's beginning: so what first adds a fact is its primary derivation.
     */
    private static final class Solution {
        private final int[] sets = new int[SLOTS];
        private final int[] before = new int[SLOTS];
        private int total = 0;
        private int productiveRounds = 0;

        /** The constraints of all primary derivations. */
        private int used = 0;

        /** Of each fact; what these rows hold for a pair that is not a fact means nothing. */
        private final int[] rounds = new int[FACTS];
        private final int[] constraints = new int[FACTS];
        private final int[] sources = new int[FACTS];
        private final int[] vias = new int[FACTS];
        private final int[] lengths = new int[FACTS];
        private final int[] proofs = new int[FACTS];

        private void solve(Program program) {
            Arrays.fill(sets, 0);
            total = 0;
            productiveRounds = 0;
            used = 0;
            boolean grew = true;
            for (int round = 1; grew && round <= FACTS + 1; round++) {
                int known = total;
                System.arraycopy(sets, 0, before, 0, SLOTS);
                for (int constraint = 0; constraint < program.list.count; constraint++) {
                    if (program.list.isEnabled(constraint)) {
                        apply(program, constraint, round);
                    }
                }
                grew = total > known;
                productiveRounds = grew ? round : productiveRounds;
            }
        }

        private void apply(Program program, int constraint, int round) {
            if (program.list.kinds[constraint] == NEW) {
                applyNew(program.list, constraint, round);
                return;
            }
            int viaSet = program.viasIn(before, constraint);
            for (int via = 0; via < MAX_OBJECTS; via++) {
                if (contains(viaSet, via)) {
                    for (int flow = 0; flow < program.flowCount(constraint); flow++) {
                        applyFlow(program, constraint, via, flow, round);
                    }
                }
            }
        }

        private void applyNew(ConstraintList list, int constraint, int round) {
            int target = list.firsts[constraint];
            int object = list.seconds[constraint];
            if (!contains(sets[target], object)) {
                addFact(target, object, constraint, round);
            }
        }

        private void applyFlow(Program program, int constraint, int via, int flow, int round) {
            int source = program.flowSource(constraint, via, flow);
            int target = program.flowTarget(constraint, via, flow);
            int gained = before[source] & ~sets[target];
            if (gained == 0) {
                return;
            }
            int viaSlot = program.viaSlot(constraint);
            for (int object = 0; object < MAX_OBJECTS; object++) {
                if (contains(gained, object)) {
                    addFact(target, object, constraint, round);
                    derive(factOf(target, object), source, factOf(source, object));
                    if (viaSlot != NONE) {
                        supply(factOf(target, object), via, factOf(viaSlot, via));
                    }
                }
            }
        }

        private void addFact(int slot, int object, int constraint, int round) {
            int fact = factOf(slot, object);
            sets[slot] |= 1 << object;
            total++;
            used |= 1 << constraint;
            rounds[fact] = round;
            constraints[fact] = constraint;
            sources[fact] = NONE;
            vias[fact] = NONE;
            lengths[fact] = 1;
            proofs[fact] = 1 << constraint;
        }

        private void derive(int fact, int source, int sourceFact) {
            sources[fact] = source;
            lengths[fact] += lengths[sourceFact];
            proofs[fact] |= proofs[sourceFact];
        }

        private void supply(int fact, int via, int viaFact) {
            vias[fact] = via;
            proofs[fact] |= proofs[viaFact];
        }

        private int fieldTargets(int objects) {
            int targets = 0;
            for (int object = 0; object < MAX_OBJECTS; object++) {
                if (contains(objects, object)) {
                    for (int field = 0; field < MAX_FIELDS; field++) {
                        targets |= sets[fieldSlot(object, field)];
                    }
                }
            }
            return targets;
        }

        private int countDerivations(Program program, int constraint, int slot, int object) {
            ConstraintList list = program.list;
            if (list.kinds[constraint] == NEW) {
                boolean adds = list.firsts[constraint] == slot
                    && list.seconds[constraint] == object;
                return adds ? 1 : 0;
            }
            int viaSet = program.viasIn(sets, constraint);
            int derivations = 0;
            for (int via = 0; via < MAX_OBJECTS; via++) {
                if (contains(viaSet, via)) {
                    for (int flow = 0; flow < program.flowCount(constraint); flow++) {
                        if (program.flowTarget(constraint, via, flow) == slot
                                && contains(sets[program.flowSource(constraint, via, flow)], object)) {
                            derivations++;
                        }
                    }
                }
            }
            return derivations;
        }
    }

    /** The sets for another choice of enabled constraints, without rounds or derivations. */
    private static final class Trial {
        private final int[] sets = new int[SLOTS];

        private void solve(Program program, int enabled) {
            Arrays.fill(sets, 0);
            boolean grew = true;
            for (int pass = 0; grew && pass <= FACTS; pass++) {
                grew = false;
                for (int constraint = 0; constraint < program.list.count; constraint++) {
                    if (contains(enabled, constraint) && apply(program, constraint)) {
                        grew = true;
                    }
                }
            }
        }

        private boolean apply(Program program, int constraint) {
            if (program.list.kinds[constraint] == NEW) {
                int object = program.list.seconds[constraint];
                return widen(program.list.firsts[constraint], 1 << object);
            }
            int viaSet = program.viasIn(sets, constraint);
            boolean grew = false;
            for (int via = 0; via < MAX_OBJECTS; via++) {
                if (contains(viaSet, via)) {
                    for (int flow = 0; flow < program.flowCount(constraint); flow++) {
                        int source = program.flowSource(constraint, via, flow);
                        if (widen(program.flowTarget(constraint, via, flow), sets[source])) {
                            grew = true;
                        }
                    }
                }
            }
            return grew;
        }

        private boolean widen(int slot, int objects) {
            if ((objects & ~sets[slot]) == 0) {
                return false;
            }
            sets[slot] |= objects;
            return true;
        }

        private int countFacts() {
            int facts = 0;
            for (int slot = 0; slot < SLOTS; slot++) {
                facts += Integer.bitCount(sets[slot]);
            }
            return facts;
        }
    }

    /** The copy edges between slots and their strongly connected components, as slot sets. */
    private static final class CopyGraph {
        private final long[] targets = new long[SLOTS];
        private final long[] reached = new long[SLOTS];
        private final long[] components = new long[SLOTS];
        private long existing = 0;

        private void build(Program program, Solution solution) {
            Arrays.fill(targets, 0L);
            for (int constraint = 0; constraint < program.list.count; constraint++) {
                if (program.list.isEnabled(constraint)) {
                    addEdges(program, constraint, program.viasIn(solution.sets, constraint));
                }
            }
            findExisting(program);
            findReached();
            findComponents();
        }

        private void addEdges(Program program, int constraint, int viaSet) {
            for (int via = 0; via < MAX_OBJECTS; via++) {
                if (contains(viaSet, via)) {
                    for (int flow = 0; flow < program.flowCount(constraint); flow++) {
                        int source = program.flowSource(constraint, via, flow);
                        int target = program.flowTarget(constraint, via, flow);
                        if (source != target) {
                            targets[source] |= 1L << target;
                        }
                    }
                }
            }
        }

        private void findExisting(Program program) {
            existing = 0;
            for (int slot = 0; slot < SLOTS; slot++) {
                if (program.slotAt(locationOf(slot)) == slot) {
                    existing |= 1L << slot;
                }
            }
        }

        private void findReached() {
            for (int slot = 0; slot < SLOTS; slot++) {
                reached[slot] = targets[slot] | 1L << slot;
            }
            // Warshall's order: after a middle's turn, paths through it and those before count.
            for (int middle = 0; middle < SLOTS; middle++) {
                for (int slot = 0; slot < SLOTS; slot++) {
                    if (holds(reached[slot], middle)) {
                        reached[slot] |= reached[middle];
                    }
                }
            }
        }

        private void findComponents() {
            for (int slot = 0; slot < SLOTS; slot++) {
                long component = 0;
                for (int other = 0; other < SLOTS; other++) {
                    if (holds(reached[slot], other) && holds(reached[other], slot)) {
                        component |= 1L << other;
                    }
                }
                components[slot] = component;
            }
        }

        private int lowestOf(int slot) {
            return Long.numberOfTrailingZeros(components[slot]);
        }

        private boolean isLowest(int slot) {
            return holds(existing, slot) && lowestOf(slot) == slot;
        }

        private int countEdges() {
            int edges = 0;
            for (int slot = 0; slot < SLOTS; slot++) {
                edges += Long.bitCount(targets[slot]);
            }
            return edges;
        }

        private int shortestPath(int from, int to) {
            long seen = 1L << from;
            // A shortest path visits no slot twice.
            for (int steps = 0; steps < SLOTS; steps++) {
                if (holds(seen, to)) {
                    return steps;
                }
                seen |= targetsOf(seen);
            }
            return ABSENT;
        }

        private long targetsOf(long slots) {
            long found = 0;
            for (int slot = 0; slot < SLOTS; slot++) {
                if (holds(slots, slot)) {
                    found |= targets[slot];
                }
            }
            return found;
        }

        private int countComponents(int leastSize) {
            int counted = 0;
            for (int slot = 0; slot < SLOTS; slot++) {
                if (isLowest(slot) && Long.bitCount(components[slot]) >= leastSize) {
                    counted++;
                }
            }
            return counted;
        }

        private int countCondensedEdges() {
            int edges = 0;
            for (int slot = 0; slot < SLOTS; slot++) {
                if (isLowest(slot)) {
                    long outside = targetsOf(components[slot]) & ~components[slot];
                    edges += Long.bitCount(lowestOfAll(outside));
                }
            }
            return edges;
        }

        /** One slot for each component that some of the slots lie in. */
        private long lowestOfAll(long slots) {
            long lowest = 0;
            for (int slot = 0; slot < SLOTS; slot++) {
                if (holds(slots, slot)) {
                    lowest |= 1L << lowestOf(slot);
                }
            }
            return lowest;
        }
    }

    /** The dump's text. */
    private static final class Dump {
        private final byte[] text = new byte[MAX_DUMP];
        private int length = 0;

        private void write(Program program, Solution solution) {
            length = 0;
            for (int variable = 0; variable < program.variables.count; variable++) {
                if (solution.sets[variable] != 0) {
                    writeName(program.variables.words[variable]);
                    writeObjects(program.objects, solution.sets[variable]);
                    writeByte(';');
                }
            }
        }

        private void writeObjects(NameTable names, int set) {
            for (int object = 0; object < names.count; object++) {
                if (contains(set, object)) {
                    writeByte(' ');
                    writeName(names.words[object]);
                }
            }
        }

        private void writeName(long word) {
            for (int letter = LONGEST_WORD - 1; letter >= 0; letter--) {
                int sign = (int) (word >>> letter * BITS_PER_LETTER) & 255;
                // A name of fewer letters is packed with zeros before it.
                if (sign != 0) {
                    writeByte(sign);
                }
            }
        }

        private void writeByte(int sign) {
            if (length < MAX_DUMP) {
                text[length] = (byte) sign;
                length++;
            }
        }
    }

    /** The latest changes, in a ring that overwrites the oldest. */
    private static final class History {
        /** Stands for an added constraint; a number stands for that constraint's toggling. */
        private static final int ADDITION = -1;

        private final int[] changes = new int[MAX_CHANGES];
        private int next = 0;
        private int depth = 0;

        private void clear() {
            next = 0;
            depth = 0;
        }

        private void push(int change) {
            changes[next] = change;
            next = (next + 1) % MAX_CHANGES;
            depth = Math.min(depth + 1, MAX_CHANGES);
        }

        private int pop() {
            next = (next + MAX_CHANGES - 1) % MAX_CHANGES;
            depth--;
            return changes[next];
        }
    }
}
