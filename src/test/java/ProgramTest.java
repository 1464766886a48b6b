/** Promises 5 to 14: the program. */
public final class ProgramTest {
    private static final Checks CHECKS = new Checks();
    private static final int THROWS = -99;

    public static void main(String[] args) {
        promises5To8Counts();
        promise9EnabledConstraints();
        promise10Functions();
        promise11KindOf();
        promise12Operand();
        promises13And14ParameterAndResult();
        CHECKS.end();
    }

    private static void due(String call, long got, long want) {
        CHECKS.due(call, got, want);
    }

    private static int kindOf(PointsToSolver x, int constraint) {
        try {
            return x.kindOf(constraint);
        } catch (IndexOutOfBoundsException e) {
            return THROWS;
        }
    }

    private static int operand(PointsToSolver x, int constraint, int position) {
        try {
            return x.operand(constraint, position);
        } catch (IndexOutOfBoundsException e) {
            return THROWS;
        }
    }

    private static void promises5To8Counts() {
        PointsToSolver x = Texts.solve("new x x;store x x y;fun z x w;load x y g;");
        due("5 variableCount", x.variableCount(), 3);
        due("6 objectCount", x.objectCount(), 2);
        due("7 fieldCount", x.fieldCount(), 2);
        due("8 constraintCount", x.constraintCount(), 3);
        x.setEnabled(1, false);
        due("8 constraintCount counts disabled ones", x.constraintCount(), 3);
        x.addConstraint(PointsToSolver.NEW, 2, 1, -2);
        due("8 constraintCount counts added ones", x.constraintCount(), 4);
        due("5 variableCount after an addition", x.variableCount(), 3);
        PointsToSolver full = Texts.solve("call a b c;call d e f;call g h i;call j k l;"
            + "call m n o;copy p p;new a a;new a b;new a c;new a d;new a e;new a f;new a g;"
            + "new a h;new a i;new a j;load a a a;load a a b;load a a c;load a a d;");
        due("5 variableCount at its limit", full.variableCount(), 16);
        due("6 objectCount at its limit", full.objectCount(), 10);
        due("7 fieldCount at its limit", full.fieldCount(), 4);
        due("8 constraintCount of the full one", full.constraintCount(), 20);
    }

    private static void promise9EnabledConstraints() {
        PointsToSolver x = Texts.solve("new x o;".repeat(30));
        due("9 all enabled", x.enabledConstraints(), (1 << 30) - 1);
        x.setEnabled(29, false);
        x.setEnabled(0, false);
        due("9 two disabled", x.enabledConstraints(), (1 << 29) - 2);
        x.setEnabled(0, true);
        due("9 one enabled again", x.enabledConstraints(), (1 << 29) - 1);
    }

    private static void promise10Functions() {
        PointsToSolver x = Texts.solve("new x a;fun b x x;new x c;fun d x y;");
        due("10 functions", x.functions(), 2 + 8);
        due("10 functions of none", Texts.solve("new x a;").functions(), 0);
    }

    private static void promise11KindOf() {
        PointsToSolver x = Texts.solve(
            "call x y z;store x f y;fun o x x;load x y f;copy x y;new x o;");
        due("11 a call", kindOf(x, 0), PointsToSolver.CALL);
        due("11 a store", kindOf(x, 1), PointsToSolver.STORE);
        due("11 a load", kindOf(x, 2), PointsToSolver.LOAD);
        due("11 a copy", kindOf(x, 3), PointsToSolver.COPY);
        due("11 a new", kindOf(x, 4), PointsToSolver.NEW);
        due("11 none", kindOf(x, 5), THROWS);
        due("11 a negative one", kindOf(x, -1), THROWS);
        due("11 the lowest int", kindOf(x, Integer.MIN_VALUE), THROWS);
        due("11 the highest int", kindOf(x, Integer.MAX_VALUE), THROWS);
        due("11 of an empty program", kindOf(new PointsToSolver(), 0), THROWS);
        x.setEnabled(2, false);
        due("11 a disabled load", kindOf(x, 2), PointsToSolver.LOAD);
        x.addConstraint(PointsToSolver.COPY, 0, 1, -2);
        due("11 an added copy", kindOf(x, 5), PointsToSolver.COPY);
        x.undo();
        due("11 an undone copy", kindOf(x, 5), THROWS);
    }

    private static void promise12Operand() {
        PointsToSolver x = Texts.solve("new a o;new b p;copy c b;load d b f;store b g a;"
            + "call e d c;");
        int[][] rows = {{0, 0, -2}, {1, 1, -2}, {2, 1, -2}, {3, 1, 0}, {1, 1, 0}, {4, 3, 2}};
        for (int constraint = 0; constraint < rows.length; constraint++) {
            for (int position = 0; position < 3; position++) {
                due("12 operand(" + constraint + ", " + position + ")",
                    operand(x, constraint, position), rows[constraint][position]);
            }
            due("12 position 3", operand(x, constraint, 3), THROWS);
            due("12 position -1", operand(x, constraint, -1), THROWS);
        }
        due("12 no constraint", operand(x, 6, 0), THROWS);
        due("12 a negative constraint", operand(x, -1, 0), THROWS);
        due("12 both wrong", operand(x, Integer.MAX_VALUE, Integer.MIN_VALUE), THROWS);
        x.addConstraint(PointsToSolver.STORE, 4, 1, 3);
        due("12 of an added one", operand(x, 6, 0) * 100 + operand(x, 6, 1) * 10
            + operand(x, 6, 2), 413);
    }

    private static void promises13And14ParameterAndResult() {
        PointsToSolver x = Texts.solve("new a o;new b g;fun g c d;fun h d d;");
        due("13 of a function", x.parameterOf(1), 2);
        due("14 of a function", x.resultOf(1), 3);
        due("13 of the last function", x.parameterOf(2), 3);
        due("14 of the last function", x.resultOf(2), 3);
        due("13 of no function", x.parameterOf(0), -2);
        due("14 of no function", x.resultOf(0), -2);
        for (int object : new int[] {3, 10, -1, Integer.MIN_VALUE, Integer.MAX_VALUE}) {
            due("13 of no object", x.parameterOf(object), -1);
            due("14 of no object", x.resultOf(object), -1);
        }
    }
}
