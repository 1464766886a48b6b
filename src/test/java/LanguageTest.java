import java.io.IOException;
import java.lang.reflect.Constructor;
import java.lang.reflect.Field;
import java.lang.reflect.Member;
import java.lang.reflect.Method;
import java.lang.reflect.Modifier;
import java.nio.file.Files;
import java.nio.file.Path;
import java.util.Arrays;
import java.util.Set;
import java.util.TreeSet;

/** The class's face, and those rules of LANGUAGE.md that can be seen from outside or by a word. */
public final class LanguageTest {
    private static final Checks CHECKS = new Checks();

    private static final String FACE = "append(int,int,int,int,int):int parse(int):int"
        + " bufferLength():int variableCount():int objectCount():int fieldCount():int"
        + " constraintCount():int enabledConstraints():int functions():int kindOf(int):int"
        + " operand(int,int):int parameterOf(int):int resultOf(int):int factCount():int"
        + " roundCount():int pointsTo(int):int pointersTo(int):int commonObjects(int,int):int"
        + " reachableObjects(int):int roundOf(int,int):int derivationCount(int,int):int"
        + " explanationLength(int,int):int explanationConstraint(int,int,int):int"
        + " explanationSource(int,int,int):int explanationVia(int,int,int):int proof(int,int):int"
        + " necessaryConstraints(int,int):int edgeCount():int hasEdge(int,int):int"
        + " distance(int,int):int componentSize(int):int representative(int):int"
        + " cyclicComponentCount():int condensedNodeCount():int condensedEdgeCount():int"
        + " callTargets(int):int callersOf(int):int uncalledFunctions():int"
        + " factCountIfToggled(int):int factCountWithout(int):int"
        + " mostInfluentialConstraint():int redundantConstraintCount():int dumpLength():int"
        + " dumpByte(int):int addConstraint(int,int,int,int):int setEnabled(int,boolean):boolean"
        + " undo():int undoDepth():int saveSnapshot(int):boolean restoreSnapshot(int):boolean";

    private static final String[] FORBIDDEN = {
        "->", "::", "catch", "finally", "synchronized", "assert ", "instanceof", "static {",
        "protected", "package ", "java.io", "java.time", "Random", "currentTimeMillis", "nanoTime",
        "Exact(", "Object ", "System.out", "Thread", "double", "float",
    };

    private static final int MOST_CLASSES = 12;
    private static final int MOST_FIELDS = 20;
    private static final int MOST_PARAMETERS = 7;
    private static final int MOST_LINES = 60;

    public static void main(String[] args) throws IOException {
        constants();
        publicFace();
        innerClasses();
        source(Files.readString(Path.of(args[0])));
        CHECKS.end();
    }

    private static void constants() {
        CHECKS.due("INVALID", PointsToSolver.INVALID, -1);
        CHECKS.due("ABSENT", PointsToSolver.ABSENT, -2);
        CHECKS.due("NEW", PointsToSolver.NEW, 0);
        CHECKS.due("COPY", PointsToSolver.COPY, 1);
        CHECKS.due("LOAD", PointsToSolver.LOAD, 2);
        CHECKS.due("STORE", PointsToSolver.STORE, 3);
        CHECKS.due("CALL", PointsToSolver.CALL, 4);
    }

    private static void publicFace() {
        Set<String> methods = new TreeSet<>();
        Set<String> names = new TreeSet<>();
        for (Method method : PointsToSolver.class.getDeclaredMethods()) {
            if (isPublicOrPrivate("rule 1: " + method, method)) {
                methods.add(signature(method));
                names.add(method.getName());
            }
        }
        CHECKS.dueText("the public methods", methods.toString(),
            new TreeSet<>(Arrays.asList(FACE.split(" "))).toString());
        Set<String> constants = new TreeSet<>();
        for (Field field : PointsToSolver.class.getDeclaredFields()) {
            if (isPublicOrPrivate("rule 1: " + field, field)) {
                constants.add(field.getName());
            }
            checkStatic(field);
        }
        CHECKS.dueText("the public fields", constants.toString(),
            "[ABSENT, CALL, COPY, INVALID, LOAD, NEW, STORE]");
        Constructor<?>[] constructors = PointsToSolver.class.getDeclaredConstructors();
        CHECKS.due("constructors", constructors.length, 1);
        CHECKS.due("its parameters", constructors[0].getParameterCount(), 0);
        CHECKS.due("it is public", Modifier.isPublic(constructors[0].getModifiers()), true);
        int modifiers = PointsToSolver.class.getModifiers();
        CHECKS.due("public and final",
            Modifier.isPublic(modifiers) && Modifier.isFinal(modifiers), true);
        for (Class<?> inner : PointsToSolver.class.getDeclaredClasses()) {
            for (Method method : inner.getDeclaredMethods()) {
                CHECKS.due("rule 1: a name of the face: " + method,
                    names.contains(method.getName()), false);
            }
        }
        for (Method method : PointsToSolver.class.getDeclaredMethods()) {
            if (Modifier.isPrivate(method.getModifiers())) {
                CHECKS.due("rule 1: a name of the face: " + method,
                    names.contains(method.getName()), false);
            }
        }
    }

    private static String signature(Method method) {
        StringBuilder signature = new StringBuilder(method.getName()).append('(');
        for (Class<?> type : method.getParameterTypes()) {
            signature.append(signature.charAt(signature.length() - 1) == '(' ? "" : ",");
            signature.append(type.getName());
        }
        return signature.append("):").append(method.getReturnType().getName()).toString();
    }

    /** Whether it is public; neither public nor private is wrong. */
    private static boolean isPublicOrPrivate(String name, Member member) {
        boolean isPublic = Modifier.isPublic(member.getModifiers());
        CHECKS.due(name, isPublic || Modifier.isPrivate(member.getModifiers())
            || member.isSynthetic(), true);
        return isPublic;
    }

    private static void checkStatic(Field field) {
        int modifiers = field.getModifiers();
        CHECKS.due("rule 5: " + field,
            !Modifier.isStatic(modifiers) || Modifier.isFinal(modifiers), true);
    }

    private static void innerClasses() {
        Class<?>[] classes = PointsToSolver.class.getDeclaredClasses();
        CHECKS.due("rule 11: few classes", classes.length < MOST_CLASSES, true);
        checkSize(PointsToSolver.class);
        for (Class<?> inner : classes) {
            int modifiers = inner.getModifiers();
            CHECKS.due("rule 1: " + inner, Modifier.isStatic(modifiers)
                && !Modifier.isPublic(modifiers) && !Modifier.isProtected(modifiers), true);
            checkSize(inner);
            for (Field field : inner.getDeclaredFields()) {
                checkStatic(field);
            }
        }
    }

    private static void checkSize(Class<?> type) {
        int fields = 0;
        for (Field field : type.getDeclaredFields()) {
            fields += Modifier.isStatic(field.getModifiers()) ? 0 : 1;
        }
        CHECKS.due("rule 11: few fields: " + type, fields <= MOST_FIELDS, true);
        for (Method method : type.getDeclaredMethods()) {
            CHECKS.due("rule 11: " + method,
                method.getParameterCount() <= MOST_PARAMETERS, true);
        }
    }

    private static void source(String text) {
        String code = text.replaceAll("(?s)/\\*.*?\\*/", "").replaceAll("//[^\n]*", "");
        for (String word : FORBIDDEN) {
            CHECKS.due("forbidden: " + word, code.contains(word), false);
        }
        for (String line : code.split("\n")) {
            if (line.startsWith("import ")) {
                CHECKS.dueText("rule 4", line, "import java.util.Arrays;");
            }
            CHECKS.due("an object is made by a field alone: " + line,
                line.contains(" new ") && !line.trim().startsWith("private ")
                    && !line.trim().startsWith("throw "), false);
        }
        CHECKS.due("rule 11: short methods", longestMethod(code) <= MOST_LINES, true);
    }

    /** A method begins with a line that is a declaration and ends at the brace below it. */
    private static int longestMethod(String code) {
        int longest = 0;
        int lines = 0;
        for (String line : code.split("\n")) {
            lines = line.matches("\\s+(public|private) .*\\) .*\\{") ? 0 : lines + 1;
            if (line.matches("\\s+\\}")) {
                longest = Math.max(longest, lines);
            }
        }
        return longest;
    }
}
