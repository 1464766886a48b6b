import java.util.ArrayList;
import java.util.List;
import java.util.function.IntUnaryOperator;

/** What the tests of boundaries share: numbers out of range, programs of a size, all answers. */
final class Bounds {
    /** How many variables, objects and fields the programs of several sizes have. */
    static final int[][] SIZES = {
        {1, 0, 0}, {1, 1, 0}, {1, 0, 1}, {1, 1, 1}, {3, 2, 1}, {2, 3, 4}, {15, 9, 3}, {16, 10, 4},
    };

    private static final int[] NUMBERS = {
        -1, -2, -3, -16, -29, -30, -31, -32, -33, -64, -100, -128, -256, -65536, 0, 1, 2, 3, 4, 5,
        6, 7, 8, 9, 10, 11, 15, 16, 17, 29, 30, 31, 32, 33, 42, 48, 62, 63, 64, 65, 96, 100, 127,
        128, 255, 256, 257, 65536, 65537, 1 << 30, Integer.MAX_VALUE, Integer.MAX_VALUE - 1,
        Integer.MIN_VALUE, Integer.MIN_VALUE + 1, Integer.MIN_VALUE + 2,
    };

    private Bounds() {
    }

    /** Numbers that are none of 0 to count - 1, the nearest and the farthest among them. */
    static int[] outside(int count) {
        List<Integer> outside = new ArrayList<>();
        outside.add(count);
        for (int number : NUMBERS) {
            if (number < 0 || number > count) {
                outside.add(number);
            }
        }
        return toArray(outside);
    }

    /** Ints that are no locations of a program of this size. */
    static int[] noLocations(int variables, int objects, int fields) {
        List<Integer> none = new ArrayList<>();
        for (int number = -20; number < 160; number++) {
            none.add(number);
        }
        for (int number : NUMBERS) {
            if (number < -20 || number >= 160) {
                none.add(number);
            }
        }
        none.add(100 + Integer.MIN_VALUE);
        none.add(256 + 100);
        for (int variable = 0; variable < variables; variable++) {
            none.remove(Integer.valueOf(variable));
        }
        for (int object = 0; object < objects; object++) {
            for (int field = 0; field < fields; field++) {
                none.remove(Integer.valueOf(100 + 4 * object + field));
            }
        }
        return toArray(none);
    }

    private static int[] toArray(List<Integer> numbers) {
        return numbers.stream().mapToInt(Integer::intValue).toArray();
    }

    /**
     * A program with so many variables (one at least), objects and fields: variables va vb vc.., of
     * which va holds all objects oa ob oc.., and fields fa fb fc.., all of them empty. It has a
     * constraint for each name, in this order.
     */
    static PointsToSolver ofSize(int variables, int objects, int fields) {
        StringBuilder text = new StringBuilder();
        for (char name = 'a'; name < 'a' + variables; name++) {
            text.append("copy v").append(name).append(" v").append(name).append(';');
        }
        for (char name = 'a'; name < 'a' + objects; name++) {
            text.append("new va o").append(name).append(';');
        }
        for (char name = 'a'; name < 'a' + fields; name++) {
            text.append("load va va f").append(name).append(';');
        }
        return Texts.solve(text.toString());
    }

    /** The call answers INVALID for each of the numbers. */
    static void invalid(Sentences s, String call, int[] numbers, IntUnaryOperator method) {
        for (int number : numbers) {
            s.due(call + " of " + number, method.applyAsInt(number), PointsToSolver.INVALID);
        }
    }

    /** What the queries tell of the program, its solution and its history. */
    static String state(PointsToSolver x) {
        int variables = x.variableCount();
        int objects = x.objectCount();
        int fields = x.fieldCount();
        int constraints = x.constraintCount();
        StringBuilder state = new StringBuilder();
        state.append("names ").append(variables).append(' ').append(objects).append(' ')
            .append(fields).append(", functions ").append(x.functions());
        for (int object = 0; object < objects; object++) {
            state.append(' ').append(x.parameterOf(object)).append('/').append(x.resultOf(object));
        }
        state.append(", enabled ").append(x.enabledConstraints());
        for (int constraint = 0; constraint < constraints; constraint++) {
            state.append(", ").append(x.kindOf(constraint));
            for (int position = 0; position < 3; position++) {
                state.append(' ').append(x.operand(constraint, position));
            }
        }
        state.append(", facts ").append(x.factCount()).append(", rounds ").append(x.roundCount());
        for (int variable = 0; variable < variables; variable++) {
            state.append(' ').append(x.pointsTo(variable));
        }
        for (int number = 0; number < 4 * objects; number++) {
            state.append(' ').append(x.pointsTo(100 + number));
        }
        state.append(", edges ").append(x.edgeCount()).append(", components ")
            .append(x.condensedNodeCount()).append(", dump ").append(x.dumpLength());
        return state.append(", undo ").append(x.undoDepth()).toString();
    }
}
