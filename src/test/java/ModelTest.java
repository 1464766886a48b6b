import java.lang.reflect.InvocationTargetException;
import java.lang.reflect.Method;
import java.lang.reflect.Modifier;
import java.util.ArrayList;
import java.util.Arrays;
import java.util.Comparator;
import java.util.List;

/** Long runs of mixed calls: each answer must be the one that the model gives. */
public final class ModelTest {
    private static final Checks CHECKS = new Checks();
    private static final int RUNS = 250;
    private static final int CALLS = 300;

    /** An object is promised 512 calls; a text takes 31 at most to be put in and parsed. */
    private static final int LAST_CALL = 512 - 31;

    private static final int RESULT_SHOWN = 20;

    /** One more statement still fits into the input buffer behind a text as long as this. */
    private static final int ENOUGH = 565;

    private static final String[] WRONG_PIECES = {
        ";", "x", " ", "\n", "A", "new", "fun", "abcdefg", ":", "" + (char) 200, "copy a", "fun a b c;",
    };

    /** What the names of variables, objects and fields begin with; a last letter tells them apart. */
    private static final String[][] BEGINNINGS = {
        {"v", "o", "f"}, {"", "", ""}, {"longe", "longe", "longe"}, {"ne", "fu", "cal"},
    };

    private final Lcg random;
    private final PointsToSolver solver = new PointsToSolver();
    private final Model model = new Model();
    private final List<String> calls = new ArrayList<>();

    private ModelTest(int seed) {
        random = new Lcg(seed);
    }

    public static void main(String[] args) throws ReflectiveOperationException {
        List<Method> queries = queries();
        for (int run = 0; run < RUNS && !CHECKS.failed(); run++) {
            new ModelTest(run).run(queries);
        }
        CHECKS.end();
    }

    /** All public methods but those that put in a text, in an order of their own. */
    private static List<Method> queries() {
        List<Method> queries = new ArrayList<>();
        for (Method method : PointsToSolver.class.getDeclaredMethods()) {
            if (Modifier.isPublic(method.getModifiers()) && !method.getName().equals("append")
                    && !method.getName().equals("parse")) {
                queries.add(method);
            }
        }
        queries.sort(Comparator.comparing(Method::getName));
        return queries;
    }

    private void run(List<Method> queries) throws ReflectiveOperationException {
        putIn(text(random.chance(5)));
        for (int call = 0; call < CALLS && calls.size() <= LAST_CALL && !CHECKS.failed(); call++) {
            if (random.chance(1)) {
                putIn(text(random.chance(50)));
            } else if (random.chance(25)) {
                change();
            } else {
                Method query = queries.get(random.below(queries.size()));
                compare(query, arguments(query));
            }
        }
    }

    /** Changes are made more often than other calls, and mostly with right arguments. */
    private void change() throws ReflectiveOperationException {
        int which = random.below(10);
        if (which < 4) {
            int kind = random.below(5);
            compare("addConstraint", kind, variable(),
                kind == 0 ? object() : kind == 3 ? field() : variable(),
                kind < 2 ? -2 : kind == 2 ? field() : variable());
        } else if (which < 8) {
            compare("setEnabled", constraint(), random.chance(50));
        } else if (which == 8) {
            compare("undo");
        } else {
            compare(random.chance(50) ? "saveSnapshot" : "restoreSnapshot", random.below(2));
        }
    }

    private Object[] arguments(Method method) {
        Object[] arguments = new Object[method.getParameterCount()];
        for (int index = 0; index < arguments.length; index++) {
            boolean flag = method.getParameterTypes()[index] == boolean.class;
            arguments[index] = flag ? (Object) random.chance(50) : argument(method, index);
        }
        return arguments;
    }

    private int argument(Method method, int index) {
        if (random.chance(4)) {
            return random.chance(50) ? random.anyInt() : random.below(200) - 10;
        }
        switch (method.getName()) {
            case "pointsTo": case "commonObjects": case "hasEdge": case "distance":
            case "componentSize": case "representative":
                return location();
            case "roundOf": case "derivationCount": case "explanationLength": case "proof":
            case "explanationConstraint": case "explanationSource": case "explanationVia":
            case "necessaryConstraints":
                return index == 0 ? location() : index == 1 ? object() : random.below(5);
            case "parameterOf": case "resultOf": case "pointersTo": case "reachableObjects":
            case "callersOf":
                return object();
            case "factCountWithout":
                return random.anyInt() & random.anyInt() & (1 << model.constraintCount()) - 1;
            case "dumpByte":
                return random.below(model.dumpLength() + 1);
            case "operand":
                return index == 0 ? constraint() : random.below(3);
            case "saveSnapshot": case "restoreSnapshot":
                return random.below(2);
            default:
                return constraint();
        }
    }

    private int variable() {
        return random.below(model.variableCount() + 1) - (random.chance(90) ? 1 : 0);
    }

    private int object() {
        return random.below(model.objectCount() + 1) - (random.chance(90) ? 1 : 0);
    }

    private int field() {
        return random.below(model.fieldCount() + 1) - (random.chance(90) ? 1 : 0);
    }

    private int constraint() {
        return random.below(model.constraintCount() + 1) - (random.chance(90) ? 1 : 0);
    }

    private int location() {
        return random.chance(50) ? variable()
            : 100 + 4 * Math.max(0, object()) + Math.max(0, field());
    }

    /** A program, most often one with many facts; a wrong one has a piece put in or cut out. */
    private String text(boolean wrong) {
        int variables = size(10, 16);
        int objects = size(6, 10);
        int fields = size(3, 4);
        int statements = size(28, 32);
        String[] begin = BEGINNINGS[random.below(BEGINNINGS.length)];
        StringBuilder text = new StringBuilder();
        List<String> functions = new ArrayList<>();
        for (int statement = 0; statement < statements && text.length() < ENOUGH; statement++) {
            String first = begin[0] + letter(variables);
            String second = begin[0] + letter(variables);
            String third = begin[0] + letter(variables);
            String object = begin[1] + letter(objects);
            String field = begin[2] + letter(fields);
            switch (random.below(11)) {
                case 0: case 1: case 2:
                    text.append("new ").append(first).append(' ').append(object);
                    break;
                case 3:
                    text.append("copy ").append(first).append('\n').append(second);
                    break;
                case 4: case 5:
                    text.append("load ").append(first).append(' ').append(second).append(' ')
                        .append(field);
                    break;
                case 6: case 7:
                    text.append("store ").append(first).append(' ').append(field).append(' ')
                        .append(second);
                    break;
                case 8: case 9:
                    text.append("call ").append(first).append(' ').append(second).append(' ')
                        .append(third);
                    break;
                default:
                    if (functions.contains(object) && !random.chance(2)) {
                        continue;
                    }
                    functions.add(object);
                    text.append("fun ").append(object).append("  ").append(first).append(' ')
                        .append(second);
                    break;
            }
            text.append(random.chance(90) ? ";" : "\n ; ");
        }
        if (wrong) {
            int at = random.below(text.length() + 1);
            if (random.chance(50)) {
                text.insert(at, WRONG_PIECES[random.below(WRONG_PIECES.length)]);
            } else {
                text.delete(at, Math.min(text.length(), at + 1 + random.below(4)));
            }
        }
        return text.toString();
    }

    /** Mostly a usual size, sometimes the limit, and now and then one that may be above it. */
    private int size(int usual, int limit) {
        if (random.chance(20)) {
            return limit;
        }
        return 1 + random.below(random.chance(10) ? limit + 2 : usual);
    }

    private char letter(int count) {
        return (char) ('a' + random.below(count));
    }

    private void putIn(String whole) throws ReflectiveOperationException {
        String text = whole.substring(0, Math.min(whole.length(), random.chance(90) ? 600 : 50));
        for (int start = 0; start < text.length(); start += 20) {
            Object[] words = new Object[5];
            for (int word = 0; word < 5; word++) {
                int packed = 0;
                for (int index = start + 4 * word; index < start + 4 * word + 4; index++) {
                    packed = packed << 8 | (index < text.length() ? text.charAt(index) : ' ');
                }
                words[word] = packed;
            }
            compare("append", words);
        }
        compare("parse", random.chance(97) ? text.length() : random.below(640) - 20);
    }

    private void compare(String name, Object... arguments) throws ReflectiveOperationException {
        for (Method method : PointsToSolver.class.getDeclaredMethods()) {
            if (method.getName().equals(name)) {
                compare(method, arguments);
            }
        }
    }

    private void compare(Method method, Object[] arguments) throws ReflectiveOperationException {
        String call = method.getName() + Arrays.toString(arguments);
        Method due = Model.class.getMethod(method.getName(), method.getParameterTypes());
        String want = answer(due, model, arguments);
        String got = answer(method, solver, arguments);
        calls.add(call + " -> " + want);
        CHECKS.dueText(call, got, want);
        if (CHECKS.failed()) {
            List<String> last =
                calls.subList(Math.max(0, calls.size() - RESULT_SHOWN), calls.size());
            System.out.println("the last calls:\n" + String.join("\n", last));
        }
    }

    private static String answer(Method method, Object target, Object[] arguments)
            throws ReflectiveOperationException {
        try {
            return String.valueOf(method.invoke(target, arguments));
        } catch (InvocationTargetException thrown) {
            return "throws." + thrown.getCause().getClass().getSimpleName();
        }
    }
}
