/** Promises 46 to 51: changes, their undoing, and snapshots. */
public final class ChangesTest {
    private static final Checks CHECKS = new Checks();
    private static final int NEW = PointsToSolver.NEW, COPY = PointsToSolver.COPY;
    private static final int LOAD = PointsToSolver.LOAD, STORE = PointsToSolver.STORE;
    private static final int CALL = PointsToSolver.CALL, ABSENT = PointsToSolver.ABSENT;

    /** Three variables x y z, two objects o p, one field f. */
    private static final String SMALL = "new x o;new y p;load z x f;";

    public static void main(String[] args) {
        promise46EachKind();
        promise46WrongInputs();
        promise46Full();
        promise47SetEnabled();
        promise48Undo();
        promise49UndoDepth();
        promise50SaveSnapshot();
        promise51RestoreSnapshot();
        snapshotsAndUndo();
        undoOfTheOnlyConstraint();
        snapshotOfThirty();
        CHECKS.end();
    }

    private static void due(String call, long got, long want) {
        CHECKS.due(call, got, want);
    }

    private static void due(String call, boolean got, boolean want) {
        CHECKS.due(call, got, want);
    }

    private static void promise46EachKind() {
        PointsToSolver x = Texts.solve("new x o;new y p;load z x f;fun o z y;");
        due("46 a store", x.addConstraint(STORE, 0, 0, 1), 3);
        due("46 its fact", x.pointsTo(100), 2);
        due("46 the load's fact", x.pointsTo(2), 2);
        due("46 a copy", x.addConstraint(COPY, 1, 0, ABSENT), 4);
        due("46 its fact", x.pointsTo(1), 3);
        due("46 a new", x.addConstraint(NEW, 2, 0, ABSENT), 5);
        due("46 its fact", x.roundOf(2, 0), 1);
        due("46 a load", x.addConstraint(LOAD, 0, 0, 0), 6);
        due("46 its fact", x.pointsTo(0), 3);
        due("46 a call", x.addConstraint(CALL, 0, 1, 2), 7);
        due("46 its target", x.callTargets(7), 1);
        due("46 enabled", x.enabledConstraints(), 255);
        due("46 kind", x.kindOf(7), CALL);
        due("46 operands", x.operand(7, 0) * 100 + x.operand(7, 1) * 10 + x.operand(7, 2), 12);
        due("46 third of a copy", x.operand(4, 2), ABSENT);
        due("46 changes", x.undoDepth(), 5);
    }

    private static void promise46WrongInputs() {
        PointsToSolver x = Texts.solve(SMALL);
        int[][] wrong = {
            {-1, 0, 0, ABSENT}, {5, 0, 0, 0}, {5, 0, 0, ABSENT}, {Integer.MIN_VALUE, 0, 0, 0},
            {Integer.MAX_VALUE, 0, 0, 0},
            {NEW, 3, 0, ABSENT}, {NEW, -1, 0, ABSENT}, {NEW, 0, 2, ABSENT}, {NEW, 0, -1, ABSENT},
            {NEW, 0, 0, 0}, {NEW, 0, 0, -1}, {NEW, ABSENT, 0, ABSENT},
            {COPY, 3, 0, ABSENT}, {COPY, 0, 3, ABSENT}, {COPY, 0, 0, 0}, {COPY, 0, 0, -1},
            {LOAD, 3, 0, 0}, {LOAD, 0, 3, 0}, {LOAD, 0, 0, 1}, {LOAD, 0, 0, ABSENT},
            {LOAD, 0, 0, -1},
            {STORE, 3, 0, 0}, {STORE, 0, 1, 0}, {STORE, 0, -1, 0}, {STORE, 0, 0, 3},
            {STORE, 0, 0, ABSENT},
            {CALL, 3, 0, 0}, {CALL, 0, 3, 0}, {CALL, 0, 0, 3}, {CALL, 0, 0, ABSENT},
            {CALL, Integer.MIN_VALUE, Integer.MAX_VALUE, Integer.MIN_VALUE},
        };
        for (int[] row : wrong) {
            due("46 of " + row[0] + ", " + row[1] + ", " + row[2] + ", " + row[3],
                x.addConstraint(row[0], row[1], row[2], row[3]), -1);
        }
        due("46 nothing added", x.constraintCount(), 3);
        due("46 no change", x.undoDepth(), 0);
        due("46 the highest operands of a store", x.addConstraint(STORE, 2, 0, 2), 3);
    }

    private static void promise46Full() {
        PointsToSolver x = Texts.solve("new x o;".repeat(29));
        due("46 the thirtieth", x.addConstraint(NEW, 0, 0, ABSENT), 29);
        due("46 the thirty-first", x.addConstraint(NEW, 0, 0, ABSENT), ABSENT);
        due("46 a wrong one when full", x.addConstraint(NEW, 1, 0, ABSENT), -1);
        due("46 no more than thirty", x.constraintCount(), 30);
        due("46 one change", x.undoDepth(), 1);
        due("46 undone", x.undo(), 0);
        due("46 the thirtieth again", x.addConstraint(COPY, 0, 0, ABSENT), 29);
        due("46 it is the copy", x.kindOf(29), COPY);
    }

    private static void promise47SetEnabled() {
        PointsToSolver x = Texts.solve(SMALL);
        due("47 enable an enabled one", x.setEnabled(0, true), false);
        due("47 disable", x.setEnabled(0, false), true);
        due("47 disable again", x.setEnabled(0, false), false);
        due("47 the set", x.pointsTo(0), 0);
        due("47 one change", x.undoDepth(), 1);
        due("47 enable", x.setEnabled(0, true), true);
        due("47 the set", x.pointsTo(0), 1);
        due("47 two changes", x.undoDepth(), 2);
        for (int constraint : new int[] {3, 30, 32, -1, Integer.MIN_VALUE, Integer.MAX_VALUE}) {
            due("47 enable none", x.setEnabled(constraint, true), false);
            due("47 disable none", x.setEnabled(constraint, false), false);
        }
        due("47 still two changes", x.undoDepth(), 2);
        due("47 still all enabled", x.enabledConstraints(), 7);
    }

    private static void promise48Undo() {
        PointsToSolver x = Texts.solve(SMALL);
        due("48 nothing to undo", x.undo(), ABSENT);
        x.setEnabled(1, false);
        x.addConstraint(COPY, 2, 0, ABSENT);
        x.setEnabled(3, false);
        x.setEnabled(1, true);
        due("48 an enabling", x.undo(), 3);
        due("48 what it leaves", x.enabledConstraints(), 5);
        due("48 a disabling", x.undo(), 2);
        due("48 what it leaves", x.enabledConstraints(), 13);
        due("48 its facts", x.pointsTo(2), 1);
        due("48 an addition", x.undo(), 1);
        due("48 what it leaves", x.constraintCount(), 3);
        due("48 its facts", x.pointsTo(2), 0);
        due("48 the first change", x.undo(), 0);
        due("48 what it leaves", x.enabledConstraints(), 7);
        due("48 no more", x.undo(), ABSENT);
        due("48 nothing changed", x.enabledConstraints(), 7);
        x.setEnabled(2, false);
        due("48 a change after undoing", x.undo(), 0);
    }

    private static void promise49UndoDepth() {
        PointsToSolver x = Texts.solve(SMALL);
        for (int change = 1; change <= 15; change++) {
            x.addConstraint(NEW, 0, 1, ABSENT);
            due("49 after " + change, x.undoDepth(), Math.min(change, 12));
        }
        for (int left = 11; left >= 0; left--) {
            due("48 of fifteen", x.undo(), left);
            due("49 of fifteen", x.undoDepth(), left);
        }
        due("48 only twelve", x.undo(), ABSENT);
        due("49 none left", x.undoDepth(), 0);
        due("48 three stay", x.constraintCount(), 6);
        x.setEnabled(0, false);
        due("49 one again", x.undoDepth(), 1);
    }

    private static void promise50SaveSnapshot() {
        PointsToSolver x = Texts.solve(SMALL);
        due("50 slot 0", x.saveSnapshot(0), true);
        due("50 slot 1", x.saveSnapshot(1), true);
        due("50 slot 0 again", x.saveSnapshot(0), true);
        for (int slot : new int[] {2, -1, 32, 33, Integer.MIN_VALUE, Integer.MAX_VALUE}) {
            due("50 slot " + slot, x.saveSnapshot(slot), false);
        }
        x.setEnabled(0, false);
        x.saveSnapshot(0);
        due("50 is no change", x.undoDepth(), 1);
        x.setEnabled(1, false);
        x.saveSnapshot(0);
        x.restoreSnapshot(0);
        due("50 replaces what was there", x.enabledConstraints(), 4);
        x.restoreSnapshot(1);
        due("50 the other slot stays", x.enabledConstraints(), 7);
        due("50 of an empty program", new PointsToSolver().saveSnapshot(1), true);
    }

    private static void promise51RestoreSnapshot() {
        PointsToSolver x = Texts.solve(SMALL);
        x.setEnabled(2, false);
        due("51 an empty slot", x.restoreSnapshot(0), false);
        due("51 the history stays then", x.undoDepth(), 1);
        for (int slot : new int[] {2, -1, 32, Integer.MIN_VALUE, Integer.MAX_VALUE}) {
            due("51 slot " + slot, x.restoreSnapshot(slot), false);
        }
        x.saveSnapshot(1);
        due("51 the other slot is empty", x.restoreSnapshot(0), false);
        x.setEnabled(2, true);
        x.setEnabled(0, false);
        x.addConstraint(COPY, 0, 1, ABSENT);
        x.addConstraint(STORE, 1, 0, 1);
        due("51 restore", x.restoreSnapshot(1), true);
        due("51 constraints", x.constraintCount(), 3);
        due("51 enabled", x.enabledConstraints(), 3);
        due("51 facts", x.factCount(), 2);
        due("51 no history", x.undoDepth(), 0);
        due("51 nothing to undo", x.undo(), ABSENT);
        x.saveSnapshot(0);
        for (int slot : new int[] {2, 31, 32, 33, -1, -31, -32}) {
            due("51 slot " + slot + " when both are full", x.restoreSnapshot(slot), false);
        }
        x.addConstraint(CALL, 0, 0, 0);
        due("51 the snapshot is still there", x.restoreSnapshot(1), true);
        due("51 and unchanged", x.constraintCount(), 3);
    }

    private static void snapshotsAndUndo() {
        PointsToSolver x = Texts.solve(SMALL);
        x.addConstraint(COPY, 2, 1, ABSENT);
        x.saveSnapshot(0);
        x.undo();
        x.addConstraint(STORE, 0, 0, 0);
        due("51 restores what was undone", x.restoreSnapshot(0), true);
        due("51 the constraint", x.kindOf(3), COPY);
        due("51 its operand", x.operand(3, 0), 2);
        due("51 its third operand", x.operand(3, 2), ABSENT);
        due("51 its facts", x.pointsTo(2), 2);
        PointsToSolver y = new PointsToSolver();
        y.saveSnapshot(0);
        due("51 of an empty program", y.restoreSnapshot(0), true);
        due("51 it stays empty", y.constraintCount(), 0);
        y.saveSnapshot(0);
        y.parse(0);
        due("51 after parse(0)", y.restoreSnapshot(0), false);
    }

    private static void undoOfTheOnlyConstraint() {
        PointsToSolver x = Texts.solve("fun o p r;");
        due("46 the first constraint", x.addConstraint(NEW, 1, 0, ABSENT), 0);
        due("46 its fact", x.factCount(), 1);
        due("48 its undoing", x.undo(), 0);
        due("48 leaves no constraint", x.constraintCount(), 0);
        due("48 none that is enabled", x.enabledConstraints(), 0);
        due("48 and no fact", x.factCount(), 0);
        due("46 the first constraint again", x.addConstraint(COPY, 0, 1, ABSENT), 0);
        due("46 it is the copy", x.kindOf(0), COPY);
    }

    private static void snapshotOfThirty() {
        PointsToSolver x = Texts.solve(SMALL + "new x o;".repeat(26));
        x.addConstraint(STORE, 1, 0, 2);
        x.saveSnapshot(0);
        x.undo();
        x.addConstraint(CALL, 0, 2, 1);
        x.saveSnapshot(1);
        x.restoreSnapshot(0);
        due("51 all thirty", x.constraintCount(), 30);
        due("51 the thirtieth", x.kindOf(29), STORE);
        due("51 its operands", x.operand(29, 0) * 100 + x.operand(29, 1) * 10 + x.operand(29, 2), 102);
        x.restoreSnapshot(1);
        due("51 the other thirtieth", x.kindOf(29), CALL);
        due("51 its operands", x.operand(29, 0) * 100 + x.operand(29, 1) * 10 + x.operand(29, 2), 21);
    }
}
