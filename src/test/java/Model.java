import java.util.ArrayDeque;
import java.util.ArrayList;
import java.util.Collections;
import java.util.Comparator;
import java.util.Deque;
import java.util.HashMap;
import java.util.HashSet;
import java.util.List;
import java.util.Map;
import java.util.Set;
import java.util.TreeMap;
import java.util.TreeSet;

/**
 * The document once more, told as plainly as can be and without any thought of cost: the solver
 * is compared with it. Locations bear the document's numbers, sets are sets, and everything is
 * worked out anew for each question.
 */
public final class Model {
    private static final List<String> KEYWORDS =
        List.of("new", "copy", "load", "store", "call", "fun");
    /** What each statement's words name: v a variable, o an object, f a field. */
    private static final List<String> SHAPES = List.of("vo", "vv", "vvf", "vfv", "vvv", "ovv");

    private record Constraint(int kind, int first, int second, int third, boolean enabled) {
        Constraint with(boolean state) {
            return new Constraint(kind, first, second, third, state);
        }
    }

    /** Source and via are null where there is none; supply is the location of the via. */
    private record Derivation(int constraint, Integer source, Integer via, Integer supply,
            boolean byResult) {
    }

    private static final class ParseError extends Exception {
        private static final long serialVersionUID = 1L;
        private final int offset;
        private final int kind;

        ParseError(int offset, int kind) {
            this.offset = offset;
            this.kind = kind;
        }
    }

    private record Token(String text, int offset, boolean legal) {
    }

    private StringBuilder buffer = new StringBuilder();
    private List<String> variables = new ArrayList<>();
    private List<String> objects = new ArrayList<>();
    private List<String> fields = new ArrayList<>();
    private Map<Integer, int[]> functionMap = new HashMap<>();
    private List<Constraint> constraints = new ArrayList<>();
    private final Deque<List<Constraint>> past = new ArrayDeque<>();
    private final List<List<Constraint>> slots = new ArrayList<>(List.of(List.of(), List.of()));
    private final boolean[] saved = new boolean[2];

    // ---- input

    public int append(int a, int b, int c, int d, int e) {
        if (buffer.length() > 580) {
            return -1;
        }
        for (int word : new int[] {a, b, c, d, e}) {
            buffer.append((char) (word >> 24 & 255)).append((char) (word >> 16 & 255));
            buffer.append((char) (word >> 8 & 255)).append((char) (word & 255));
        }
        return buffer.length();
    }

    public int bufferLength() {
        return buffer.length();
    }

    public int parse(int length) {
        if (length < 0 || length > buffer.length()) {
            return -1;
        }
        String text = buffer.substring(0, length);
        buffer = new StringBuilder();
        Model parsed = new Model();
        try {
            parsed.readProgram(text);
        } catch (ParseError error) {
            return -2 - (8 * error.offset + error.kind);
        }
        variables = parsed.variables;
        objects = parsed.objects;
        fields = parsed.fields;
        functionMap = parsed.functionMap;
        constraints = parsed.constraints;
        past.clear();
        saved[0] = false;
        saved[1] = false;
        return constraints.size();
    }

    private static List<Token> tokens(String text) {
        List<Token> tokens = new ArrayList<>();
        int at = 0;
        while (at < text.length()) {
            int end = at;
            while (end < text.length() && text.charAt(end) >= 'a' && text.charAt(end) <= 'z') {
                end++;
            }
            if (end > at) {
                tokens.add(new Token(text.substring(at, end), at, end - at <= 6));
                at = end;
            } else {
                char sign = text.charAt(at);
                if (sign != 32 && sign != 10) {
                    tokens.add(new Token("" + sign, at, sign == ';'));
                }
                at++;
            }
        }
        return tokens;
    }

    private void readProgram(String text) throws ParseError {
        List<Token> tokens = tokens(text);
        int next = 0;
        while (next < tokens.size()) {
            Token first = tokens.get(next);
            int statement = KEYWORDS.indexOf(first.text);
            if (statement < 0) {
                throw new ParseError(first.offset, 1);
            }
            if (statement < 5 && constraints.size() == 30) {
                throw new ParseError(first.offset, 3);
            }
            next++;
            List<Integer> numbers = new ArrayList<>();
            for (char type : SHAPES.get(statement).toCharArray()) {
                Token token = tokenAt(tokens, next, text);
                next++;
                if (!token.legal || token.text.equals(";") || KEYWORDS.contains(token.text)) {
                    throw new ParseError(token.offset, 1);
                }
                numbers.add(type == 'v' ? number(variables, token, 16)
                    : type == 'o' ? number(objects, token, 10) : number(fields, token, 4));
                if (statement == 5 && type == 'o' && functionMap.containsKey(numbers.get(0))) {
                    throw new ParseError(token.offset, 2);
                }
            }
            Token end = tokenAt(tokens, next, text);
            next++;
            if (!end.text.equals(";")) {
                throw new ParseError(end.offset, 1);
            }
            if (statement == 5) {
                functionMap.put(numbers.get(0), new int[] {numbers.get(1), numbers.get(2)});
            } else {
                constraints.add(new Constraint(statement, numbers.get(0), numbers.get(1),
                    numbers.size() > 2 ? numbers.get(2) : -2, true));
            }
        }
    }

    private static Token tokenAt(List<Token> tokens, int index, String text) throws ParseError {
        if (index >= tokens.size()) {
            throw new ParseError(text.length(), 1);
        }
        return tokens.get(index);
    }

    private static int number(List<String> names, Token token, int most) throws ParseError {
        if (!names.contains(token.text)) {
            if (names.size() == most) {
                throw new ParseError(token.offset, 3);
            }
            names.add(token.text);
        }
        return names.indexOf(token.text);
    }

    // ---- the program

    public int variableCount() {
        return variables.size();
    }

    public int objectCount() {
        return objects.size();
    }

    public int fieldCount() {
        return fields.size();
    }

    public int constraintCount() {
        return constraints.size();
    }

    public int enabledConstraints() {
        int set = 0;
        for (int c = 0; c < constraints.size(); c++) {
            set += constraints.get(c).enabled ? 1 << c : 0;
        }
        return set;
    }

    public int functions() {
        return bits(functionMap.keySet());
    }

    public int kindOf(int constraint) {
        if (!isConstraint(constraint)) {
            throw new IndexOutOfBoundsException();
        }
        return constraints.get(constraint).kind;
    }

    public int operand(int constraint, int position) {
        if (!isConstraint(constraint) || position < 0 || position > 2) {
            throw new IndexOutOfBoundsException();
        }
        Constraint it = constraints.get(constraint);
        return new int[] {it.first, it.second, it.third}[position];
    }

    public int parameterOf(int object) {
        return functionPart(object, 0);
    }

    public int resultOf(int object) {
        return functionPart(object, 1);
    }

    private int functionPart(int object, int part) {
        if (!isObject(object)) {
            return -1;
        }
        return functionMap.containsKey(object) ? functionMap.get(object)[part] : -2;
    }

    // ---- the solution

    public int factCount() {
        return count(solve(constraints));
    }

    public int roundCount() {
        int last = 0;
        for (Map<Integer, Integer> set : solve(constraints).values()) {
            for (int round : set.values()) {
                last = Math.max(last, round);
            }
        }
        return last;
    }

    public int pointsTo(int location) {
        return isLocation(location) ? bits(solve(constraints).get(location).keySet()) : -1;
    }

    public int pointersTo(int object) {
        if (!isObject(object)) {
            return -1;
        }
        int set = 0;
        for (int v = 0; v < variables.size(); v++) {
            set += solve(constraints).get(v).containsKey(object) ? 1 << v : 0;
        }
        return set;
    }

    public int commonObjects(int first, int second) {
        if (!isLocation(first) || !isLocation(second)) {
            return -1;
        }
        Set<Integer> common = new HashSet<>(solve(constraints).get(first).keySet());
        common.retainAll(solve(constraints).get(second).keySet());
        return bits(common);
    }

    public int reachableObjects(int object) {
        if (!isObject(object)) {
            return -1;
        }
        Map<Integer, Map<Integer, Integer>> solution = solve(constraints);
        Set<Integer> reached = new TreeSet<>();
        Deque<Integer> open = new ArrayDeque<>(List.of(object));
        while (!open.isEmpty()) {
            int next = open.pop();
            if (reached.add(next)) {
                for (int f = 0; f < fields.size(); f++) {
                    open.addAll(solution.get(100 + 4 * next + f).keySet());
                }
            }
        }
        return bits(reached);
    }

    // ---- derivations

    public int roundOf(int location, int object) {
        if (!isLocation(location) || !isObject(object)) {
            return -1;
        }
        return solve(constraints).get(location).getOrDefault(object, -2);
    }

    public int derivationCount(int location, int object) {
        if (!isLocation(location) || !isObject(object)) {
            return -1;
        }
        return derivations(solve(constraints), location, object).size();
    }

    public int explanationLength(int location, int object) {
        if (!isLocation(location) || !isObject(object)) {
            return -1;
        }
        List<Derivation> steps = explanation(location, object);
        return steps.isEmpty() ? -2 : steps.size();
    }

    public int explanationConstraint(int location, int object, int step) {
        if (!isLocation(location) || !isObject(object) || step < 0) {
            return -1;
        }
        List<Derivation> steps = explanation(location, object);
        return step < steps.size() ? steps.get(step).constraint : -2;
    }

    public int explanationSource(int location, int object, int step) {
        if (!isLocation(location) || !isObject(object) || step < 0) {
            return -1;
        }
        List<Derivation> steps = explanation(location, object);
        return step < steps.size() && steps.get(step).source != null
            ? steps.get(step).source : -2;
    }

    public int explanationVia(int location, int object, int step) {
        if (!isLocation(location) || !isObject(object) || step < 0) {
            return -1;
        }
        List<Derivation> steps = explanation(location, object);
        return step < steps.size() && steps.get(step).via != null ? steps.get(step).via : -2;
    }

    public int proof(int location, int object) {
        if (!isLocation(location) || !isObject(object)) {
            return -1;
        }
        Set<Integer> proof = new TreeSet<>();
        prove(location, object, proof);
        return bits(proof);
    }

    private void prove(int location, int object, Set<Integer> proof) {
        for (Derivation step : explanation(location, object)) {
            proof.add(step.constraint);
            if (step.via != null) {
                prove(step.supply, step.via, proof);
            }
        }
    }

    public int necessaryConstraints(int location, int object) {
        if (!isLocation(location) || !isObject(object)) {
            return -1;
        }
        Set<Integer> necessary = new TreeSet<>();
        if (solve(constraints).get(location).containsKey(object)) {
            for (int c : enabledNumbers()) {
                if (!solve(toggled(c)).get(location).containsKey(object)) {
                    necessary.add(c);
                }
            }
        }
        return bits(necessary);
    }

    /** Empty if it is no fact. */
    private List<Derivation> explanation(int location, int object) {
        Map<Integer, Map<Integer, Integer>> solution = solve(constraints);
        List<Derivation> steps = new ArrayList<>();
        Integer at = solution.get(location).containsKey(object) ? (Integer) location : null;
        while (at != null) {
            Derivation step = primary(solution, at, object);
            steps.add(step);
            at = step.source;
        }
        return steps;
    }

    private Derivation primary(Map<Integer, Map<Integer, Integer>> solution, int location,
            int object) {
        int round = solution.get(location).get(object);
        List<Derivation> applicable = new ArrayList<>();
        for (Derivation d : derivations(solution, location, object)) {
            boolean sourceInTime = d.source == null || solution.get(d.source).get(object) < round;
            boolean viaInTime = d.via == null || solution.get(d.supply).get(d.via) < round;
            if (sourceInTime && viaInTime) {
                applicable.add(d);
            }
        }
        return Collections.min(applicable, Comparator.comparingInt(Derivation::constraint)
            .thenComparing(d -> d.via == null ? -1 : d.via)
            .thenComparing(Derivation::byResult));
    }

    private List<Derivation> derivations(Map<Integer, Map<Integer, Integer>> solution,
            int location, int object) {
        List<Derivation> found = new ArrayList<>();
        for (int c : enabledNumbers()) {
            Constraint it = constraints.get(c);
            if (it.kind == 0) {
                if (it.first == location && it.second == object) {
                    found.add(new Derivation(c, null, null, null, false));
                }
                continue;
            }
            for (Copying copying : copyings(it, solution)) {
                if (copying.target == location && solution.get(copying.source).containsKey(object)) {
                    found.add(new Derivation(c, copying.source, copying.via, copying.supply,
                        copying.byResult));
                }
            }
        }
        return found;
    }

    /** That a constraint copies a source's whole set into a target. */
    private record Copying(int source, int target, Integer via, Integer supply,
            boolean byResult) {
    }

    private List<Copying> copyings(Constraint it, Map<Integer, Map<Integer, Integer>> sets) {
        List<Copying> found = new ArrayList<>();
        if (it.kind == 1) {
            found.add(new Copying(it.second, it.first, null, null, false));
        } else if (it.kind == 2) {
            for (int o : sets.get(it.second).keySet()) {
                found.add(new Copying(100 + 4 * o + it.third, it.first, o, it.second, false));
            }
        } else if (it.kind == 3) {
            for (int o : sets.get(it.first).keySet()) {
                found.add(new Copying(it.third, 100 + 4 * o + it.second, o, it.first, false));
            }
        } else if (it.kind == 4) {
            for (int o : sets.get(it.second).keySet()) {
                if (functionMap.containsKey(o)) {
                    int[] parts = functionMap.get(o);
                    found.add(new Copying(it.third, parts[0], o, it.second, false));
                    found.add(new Copying(parts[1], it.first, o, it.second, true));
                }
            }
        }
        return found;
    }

    /** Each location's objects with their rounds. */
    private Map<Integer, Map<Integer, Integer>> solve(List<Constraint> list) {
        Map<Integer, Map<Integer, Integer>> sets = new TreeMap<>();
        for (int location : locations()) {
            sets.put(location, new TreeMap<>());
        }
        int before = -1;
        for (int round = 1; count(sets) > before; round++) {
            before = count(sets);
            Map<Integer, Map<Integer, Integer>> old = new TreeMap<>();
            for (int location : sets.keySet()) {
                old.put(location, new TreeMap<>(sets.get(location)));
            }
            for (Constraint it : list) {
                if (!it.enabled) {
                    continue;
                }
                if (it.kind == 0) {
                    sets.get(it.first).putIfAbsent(it.second, round);
                }
                for (Copying copying : copyings(it, old)) {
                    for (int object : old.get(copying.source).keySet()) {
                        sets.get(copying.target).putIfAbsent(object, round);
                    }
                }
            }
        }
        return sets;
    }

    private static int count(Map<Integer, Map<Integer, Integer>> sets) {
        int facts = 0;
        for (Map<Integer, Integer> set : sets.values()) {
            facts += set.size();
        }
        return facts;
    }

    // ---- copy edges

    public int edgeCount() {
        int edges = 0;
        for (Set<Integer> targets : edges().values()) {
            edges += targets.size();
        }
        return edges;
    }

    public int hasEdge(int from, int to) {
        if (!isLocation(from) || !isLocation(to) || from == to) {
            return -1;
        }
        return edges().get(from).contains(to) ? 1 : 0;
    }

    public int distance(int from, int to) {
        if (!isLocation(from) || !isLocation(to)) {
            return -1;
        }
        return distances(from).getOrDefault(to, -2);
    }

    public int componentSize(int location) {
        return isLocation(location) ? component(location).size() : -1;
    }

    public int representative(int location) {
        return isLocation(location) ? Collections.min(component(location)) : -1;
    }

    public int cyclicComponentCount() {
        int cyclic = 0;
        for (Set<Integer> component : components()) {
            cyclic += component.size() > 1 ? 1 : 0;
        }
        return cyclic;
    }

    public int condensedNodeCount() {
        return components().size();
    }

    public int condensedEdgeCount() {
        Set<List<Integer>> pairs = new HashSet<>();
        Map<Integer, Set<Integer>> edges = edges();
        for (int from : edges.keySet()) {
            for (int to : edges.get(from)) {
                if (representative(from) != representative(to)) {
                    pairs.add(List.of(representative(from), representative(to)));
                }
            }
        }
        return pairs.size();
    }

    private Map<Integer, Set<Integer>> edges() {
        Map<Integer, Map<Integer, Integer>> solution = solve(constraints);
        Map<Integer, Set<Integer>> edges = new TreeMap<>();
        for (int location : locations()) {
            edges.put(location, new TreeSet<>());
        }
        for (int c : enabledNumbers()) {
            for (Copying copying : copyings(constraints.get(c), solution)) {
                if (copying.source != copying.target) {
                    edges.get(copying.source).add(copying.target);
                }
            }
        }
        return edges;
    }

    private Map<Integer, Integer> distances(int from) {
        Map<Integer, Set<Integer>> edges = edges();
        Map<Integer, Integer> distances = new HashMap<>(Map.of(from, 0));
        Deque<Integer> open = new ArrayDeque<>(List.of(from));
        while (!open.isEmpty()) {
            int next = open.poll();
            for (int to : edges.get(next)) {
                if (!distances.containsKey(to)) {
                    distances.put(to, distances.get(next) + 1);
                    open.add(to);
                }
            }
        }
        return distances;
    }

    private Set<Integer> component(int location) {
        Set<Integer> component = new TreeSet<>();
        for (int other : distances(location).keySet()) {
            if (distances(other).containsKey(location)) {
                component.add(other);
            }
        }
        return component;
    }

    private Set<Set<Integer>> components() {
        Set<Set<Integer>> components = new HashSet<>();
        for (int location : locations()) {
            components.add(component(location));
        }
        return components;
    }

    // ---- calls

    public int callTargets(int constraint) {
        if (!isConstraint(constraint) || constraints.get(constraint).kind != 4) {
            return -1;
        }
        return bits(targets(constraint));
    }

    public int callersOf(int object) {
        if (!isObject(object)) {
            return -1;
        }
        Set<Integer> callers = new TreeSet<>();
        for (int c = 0; c < constraints.size(); c++) {
            if (constraints.get(c).kind == 4 && targets(c).contains(object)) {
                callers.add(c);
            }
        }
        return bits(callers);
    }

    public int uncalledFunctions() {
        Set<Integer> uncalled = new TreeSet<>(functionMap.keySet());
        for (int c = 0; c < constraints.size(); c++) {
            if (constraints.get(c).kind == 4) {
                uncalled.removeAll(targets(c));
            }
        }
        return bits(uncalled);
    }

    private Set<Integer> targets(int call) {
        Set<Integer> targets = new TreeSet<>();
        if (constraints.get(call).enabled) {
            targets.addAll(solve(constraints).get(constraints.get(call).second).keySet());
            targets.retainAll(functionMap.keySet());
        }
        return targets;
    }

    // ---- what if

    public int factCountIfToggled(int constraint) {
        return isConstraint(constraint) ? count(solve(toggled(constraint))) : -1;
    }

    public int factCountWithout(int set) {
        List<Constraint> left = new ArrayList<>(constraints);
        for (int bit = 0; bit < 32; bit++) {
            if ((set >> bit & 1) == 1) {
                if (bit >= constraints.size()) {
                    return -1;
                }
                left.set(bit, left.get(bit).with(false));
            }
        }
        return count(solve(left));
    }

    public int mostInfluentialConstraint() {
        int best = -2;
        int least = factCount();
        for (int c : enabledNumbers()) {
            if (factCountIfToggled(c) < least) {
                least = factCountIfToggled(c);
                best = c;
            }
        }
        return best;
    }

    public int redundantConstraintCount() {
        int redundant = 0;
        for (int c : enabledNumbers()) {
            redundant += factCountIfToggled(c) == factCount() ? 1 : 0;
        }
        return redundant;
    }

    // ---- the dump

    public int dumpLength() {
        return dump().length();
    }

    public int dumpByte(int index) {
        return index < 0 || index >= dump().length() ? -1 : dump().charAt(index);
    }

    private String dump() {
        StringBuilder dump = new StringBuilder();
        Map<Integer, Map<Integer, Integer>> solution = solve(constraints);
        for (int v = 0; v < variables.size(); v++) {
            if (!solution.get(v).isEmpty()) {
                dump.append(variables.get(v));
                for (int o : solution.get(v).keySet()) {
                    dump.append(" ").append(objects.get(o));
                }
                dump.append(";");
            }
        }
        return dump.toString();
    }

    // ---- changes

    public int addConstraint(int kind, int first, int second, int third) {
        if (kind < 0 || kind > 4) {
            return -1;
        }
        int[] operands = {first, second, third};
        String shape = SHAPES.get(kind);
        for (int position = 0; position < 3; position++) {
            char type = position < shape.length() ? shape.charAt(position) : '-';
            int most = type == 'v' ? variables.size() : type == 'o' ? objects.size()
                : fields.size();
            boolean right = type == '-' ? operands[position] == -2
                : operands[position] >= 0 && operands[position] < most;
            if (!right) {
                return -1;
            }
        }
        if (constraints.size() == 30) {
            return -2;
        }
        remember();
        constraints.add(new Constraint(kind, first, second, third, true));
        return constraints.size() - 1;
    }

    public boolean setEnabled(int constraint, boolean enabled) {
        if (!isConstraint(constraint) || constraints.get(constraint).enabled == enabled) {
            return false;
        }
        remember();
        constraints.set(constraint, constraints.get(constraint).with(enabled));
        return true;
    }

    public int undo() {
        if (past.isEmpty()) {
            return -2;
        }
        constraints = past.pop();
        return past.size();
    }

    public int undoDepth() {
        return past.size();
    }

    public boolean saveSnapshot(int slot) {
        if (slot != 0 && slot != 1) {
            return false;
        }
        slots.set(slot, new ArrayList<>(constraints));
        saved[slot] = true;
        return true;
    }

    public boolean restoreSnapshot(int slot) {
        if (slot != 0 && slot != 1 || !saved[slot]) {
            return false;
        }
        constraints = new ArrayList<>(slots.get(slot));
        past.clear();
        return true;
    }

    private void remember() {
        past.push(new ArrayList<>(constraints));
        if (past.size() > 12) {
            past.removeLast();
        }
    }

    // ---- the workings

    private boolean isConstraint(int constraint) {
        return constraint >= 0 && constraint < constraints.size();
    }

    private boolean isObject(int object) {
        return object >= 0 && object < objects.size();
    }

    private boolean isLocation(int location) {
        return locations().contains(location);
    }

    private Set<Integer> locations() {
        Set<Integer> locations = new TreeSet<>();
        for (int v = 0; v < variables.size(); v++) {
            locations.add(v);
        }
        for (int o = 0; o < objects.size(); o++) {
            for (int f = 0; f < fields.size(); f++) {
                locations.add(100 + 4 * o + f);
            }
        }
        return locations;
    }

    private List<Integer> enabledNumbers() {
        List<Integer> numbers = new ArrayList<>();
        for (int c = 0; c < constraints.size(); c++) {
            if (constraints.get(c).enabled) {
                numbers.add(c);
            }
        }
        return numbers;
    }

    private List<Constraint> toggled(int constraint) {
        List<Constraint> list = new ArrayList<>(constraints);
        list.set(constraint, list.get(constraint).with(!list.get(constraint).enabled));
        return list;
    }

    private static int bits(Set<Integer> numbers) {
        int bits = 0;
        for (int number : numbers) {
            bits |= 1 << number;
        }
        return bits;
    }
}
