/** The sentences on CHANGES and in promises 46 to 51. */
final class BoundsOfChanges {
    private static final int NEW = PointsToSolver.NEW, COPY = PointsToSolver.COPY;
    private static final int LOAD = PointsToSolver.LOAD, STORE = PointsToSolver.STORE;
    private static final int CALL = PointsToSolver.CALL, ABSENT = PointsToSolver.ABSENT;

    /** Three variables x y z, two objects o p, one field f; the constraints are 0 to 2. */
    private static final String SMALL = "new x o;new y p;load z x f;";

    private final Sentences s;

    BoundsOfChanges(Sentences s) {
        this.s = s;
    }

    void check() {
        changes();
        latestTwelve();
        slots();
        parses();
        promise46();
        promise46Refusals();
        promise47();
        promise48();
        promise49();
        promise50();
        promise51();
    }

    private static PointsToSolver small() {
        return Texts.solve(SMALL);
    }

    private void changes() {
        s.description("46 to 49", "addConstraint and setEnabled are changes if they succeed.");
        PointsToSolver x = small();
        x.addConstraint(NEW, 0, 0, 0);
        s.due("after a refused addition", x.undoDepth(), 0);
        x.setEnabled(0, true);
        x.setEnabled(3, false);
        s.due("after refused settings", x.undoDepth(), 0);
        x.addConstraint(COPY, 0, 1, ABSENT);
        s.due("after an addition", x.undoDepth(), 1);
        x.setEnabled(0, false);
        s.due("after a disabling", x.undoDepth(), 2);
        x.setEnabled(0, true);
        s.due("after an enabling", x.undoDepth(), 3);
        x.saveSnapshot(0);
        x.append(0, 0, 0, 0, 0);
        x.parse(-1);
        x.parse(1);
        x.factCountIfToggled(0);
        x.factCountWithout(7);
        s.due("after calls that are no changes", x.undoDepth(), 3);
        PointsToSolver full = Texts.solve("new x o;".repeat(30));
        full.addConstraint(NEW, 0, 0, ABSENT);
        s.due("after an addition to 30", full.undoDepth(), 0);
    }

    private void latestTwelve() {
        s.description("48 and 49", "The latest 12 changes can be undone, the latest first.");
        PointsToSolver x = Texts.solve("new x o;".repeat(14));
        for (int constraint = 0; constraint < 14; constraint++) {
            x.setEnabled(constraint, false);
        }
        s.due("undoDepth()", x.undoDepth(), 12);
        for (int left = 11; left >= 0; left--) {
            s.due("undo()", x.undo(), left);
            s.due("enabledConstraints()", x.enabledConstraints(), 0x3fff & -1 << left + 2);
        }
        s.due("undo() of a thirteenth", x.undo(), ABSENT);
        s.due("enabledConstraints()", x.enabledConstraints(), 0x3ffc);
        PointsToSolver mixed = small();
        mixed.addConstraint(COPY, 0, 1, ABSENT);
        mixed.setEnabled(3, false);
        mixed.addConstraint(COPY, 1, 0, ABSENT);
        mixed.setEnabled(0, false);
        mixed.undo();
        s.due("the latest: enabled", mixed.enabledConstraints(), 1 + 2 + 4 + 16);
        mixed.undo();
        s.due("the latest but one: constraints", mixed.constraintCount(), 4);
        s.due("the latest but one: enabled", mixed.enabledConstraints(), 7);
        mixed.undo();
        s.due("the second: enabled", mixed.enabledConstraints(), 15);
        mixed.undo();
        s.due("the first: constraints", mixed.constraintCount(), 3);
    }

    private void slots() {
        s.description("50 and 51", "There are two snapshot slots, 0 and 1");
        PointsToSolver x = small();
        s.due("saveSnapshot(0)", x.saveSnapshot(0), true);
        x.setEnabled(0, false);
        s.due("saveSnapshot(1)", x.saveSnapshot(1), true);
        x.setEnabled(1, false);
        s.due("saveSnapshot(2)", x.saveSnapshot(2), false);
        s.due("restoreSnapshot(2)", x.restoreSnapshot(2), false);
        s.due("restoreSnapshot(0)", x.restoreSnapshot(0), true);
        s.due("enabled", x.enabledConstraints(), 7);
        s.due("restoreSnapshot(1)", x.restoreSnapshot(1), true);
        s.due("enabled", x.enabledConstraints(), 6);

        s.description("50 and 51",
            "a snapshot holds the list of constraints and which of them are enabled.");
        PointsToSolver list = small();
        list.addConstraint(STORE, 2, 0, 1);
        list.setEnabled(1, false);
        list.saveSnapshot(1);
        String before = Bounds.state(list);
        list.undo();
        list.undo();
        list.addConstraint(CALL, 0, 1, 2);
        list.addConstraint(NEW, 0, 1, ABSENT);
        list.restoreSnapshot(1);
        s.dueText("the state", Bounds.state(list), before.replace("undo 2", "undo 0"));
        s.due("kindOf(3)", BoundsOfProgram.kindOf(list, 3), STORE);
        s.due("constraintCount()", list.constraintCount(), 4);
        s.due("enabledConstraints()", list.enabledConstraints(), 1 + 4 + 8);
    }

    private void parses() {
        s.description("3, 9, 49 and 51",
            "A successful parse enables all constraints, clears the undo history and empties both"
            + " slots.");
        for (String text : new String[] {SMALL, "", "fun o p r;", "new x o;".repeat(30)}) {
            PointsToSolver x = small();
            x.saveSnapshot(0);
            x.setEnabled(0, false);
            x.setEnabled(2, false);
            x.saveSnapshot(1);
            int constraints = Texts.parse(x, text);
            s.due("enabledConstraints()", x.enabledConstraints(), (1 << constraints) - 1);
            s.due("undoDepth()", x.undoDepth(), 0);
            s.due("undo()", x.undo(), ABSENT);
            s.due("restoreSnapshot(0)", x.restoreSnapshot(0), false);
            s.due("restoreSnapshot(1)", x.restoreSnapshot(1), false);
            s.due("constraintCount()", x.constraintCount(), constraints);
        }
    }

    private void promise46() {
        s.promise(46, "Appends an enabled constraint.");
        PointsToSolver x = small();
        x.setEnabled(2, false);
        x.addConstraint(COPY, 2, 0, ABSENT);
        s.due("enabledConstraints()", x.enabledConstraints(), 1 + 2 + 8);
        s.due("constraintCount()", x.constraintCount(), 4);
        s.due("its fact", x.pointsTo(2), 1);
        x.setEnabled(3, false);
        x.undo();
        x.undo();
        x.addConstraint(COPY, 2, 1, ABSENT);
        s.due("in the place of an undone one", x.enabledConstraints(), 1 + 2 + 8);
        s.due("its fact", x.pointsTo(2), 2);

        s.promise(46, "The operands are numbers of existing variables, objects and fields, in the order"
            + " in which they stand in the text.");
        PointsToSolver y = Texts.solve("new a m;new b n;new c o;load a a f;load a a g;fun n a b;");
        dueAdded(y, NEW, 2, 1, ABSENT);
        dueAdded(y, COPY, 0, 2, ABSENT);
        dueAdded(y, LOAD, 0, 2, 1);
        dueAdded(y, STORE, 0, 1, 2);
        dueAdded(y, CALL, 2, 1, 0);
        s.due("the new", y.roundOf(2, 1), 1);
        s.due("the copy", y.hasEdge(2, 0), 1);
        s.due("the load of o.g", y.hasEdge(109, 0), 1);
        s.due("the store to m.g", y.hasEdge(2, 101), 1);
        s.due("the call's result b", y.hasEdge(1, 2), 1);
        s.due("the call's targets", y.callTargets(9), 2);
    }

    private void dueAdded(PointsToSolver x, int kind, int... operands) {
        int number = x.addConstraint(kind, operands[0], operands[1], operands[2]);
        s.due("kind", BoundsOfProgram.kindOf(x, number), kind);
        for (int position = 0; position < 3; position++) {
            s.due("operand " + position, BoundsOfProgram.operand(x, number, position),
                operands[position]);
        }
    }

    /** Right operands of each kind; what stands at a place is v, o, f or a dash for ABSENT. */
    private static final int[][] RIGHT = {
        {0, 0, ABSENT}, {0, 0, ABSENT}, {0, 0, 0}, {0, 0, 0}, {0, 0, 0},
    };
    private static final String[] PLACES = {"vo-", "vv-", "vvf", "vfv", "vvv"};

    private void promise46Refusals() {
        s.promise(46, "`kind`: NEW, COPY, LOAD, STORE or CALL");
        for (int kind : Bounds.outside(5)) {
            s.due("kind " + kind, small().addConstraint(kind, 0, 0, 0), -1);
            s.due("kind " + kind, small().addConstraint(kind, 0, 0, ABSENT), -1);
        }
        for (int kind = 0; kind < 5; kind++) {
            s.due("kind " + kind, small().addConstraint(kind, 0, 0, kind < 2 ? ABSENT : 0), 3);
        }

        s.promise(46, "`third`: the third operand; must be ABSENT for NEW and COPY");
        for (int third : new int[] {-1, 0, 1, 2, -3, Integer.MIN_VALUE, Integer.MAX_VALUE}) {
            s.due("NEW with " + third, small().addConstraint(NEW, 0, 0, third), -1);
            s.due("COPY with " + third, small().addConstraint(COPY, 0, 0, third), -1);
        }
        for (int kind = 2; kind < 5; kind++) {
            s.due("ABSENT for kind " + kind, small().addConstraint(kind, 0, 0, ABSENT), -1);
        }

        s.promise(46, "Returns the number of the new constraint");
        PointsToSolver x = small();
        for (int number = 3; number < 30; number++) {
            s.due("addConstraint", x.addConstraint(NEW, 0, 0, ABSENT), number);
        }
        s.due("to no constraints", Texts.solve("fun o p r;").addConstraint(NEW, 0, 0, ABSENT), 0);

        s.promise(46, "INVALID if an argument is out of range (checked first)");
        for (int[] size : new int[][] {{3, 2, 1}, {5, 6, 4}, {15, 9, 3}}) {
            outOfRange(size);
        }
        s.due("of nothing", new PointsToSolver().addConstraint(COPY, 0, 0, ABSENT), -1);
        PointsToSolver full = Texts.solve("new x o;load x x f;".repeat(15));
        s.due("a wrong kind at 30", full.addConstraint(5, 0, 0, 0), -1);
        s.due("a wrong variable at 30", full.addConstraint(NEW, 1, 0, ABSENT), -1);
        s.due("a wrong object at 30", full.addConstraint(NEW, 0, 1, ABSENT), -1);
        s.due("a wrong field at 30", full.addConstraint(LOAD, 0, 0, 1), -1);
        s.due("a wrong third at 30", full.addConstraint(COPY, 0, 0, 0), -1);

        s.promise(46, "ABSENT if there are 30 constraints already.");
        for (int kind = 0; kind < 5; kind++) {
            s.due("kind " + kind + " at 30", full.addConstraint(kind, 0, 0, kind < 2 ? ABSENT : 0),
                ABSENT);
        }
        s.due("constraintCount()", full.constraintCount(), 30);
        s.due("at 30 by additions", x.addConstraint(COPY, 0, 0, ABSENT), ABSENT);
        x.undo();
        s.due("at 29", x.addConstraint(COPY, 0, 0, ABSENT), 29);
        full.setEnabled(0, false);
        s.due("at 30, one of them disabled", full.addConstraint(NEW, 0, 0, ABSENT), ABSENT);

        s.promise(46, "Nothing changes on an error.");
        String fullState = Bounds.state(full);
        full.addConstraint(NEW, 0, 0, ABSENT);
        full.addConstraint(NEW, 0, 1, ABSENT);
        s.dueText("the state at 30", Bounds.state(full), fullState);
        PointsToSolver few = small();
        few.setEnabled(1, false);
        String state = Bounds.state(few);
        few.addConstraint(NEW, 3, 0, ABSENT);
        few.addConstraint(COPY, 0, 0, 0);
        few.addConstraint(LOAD, 0, 0, 1);
        few.addConstraint(-1, 0, 0, ABSENT);
        s.dueText("the state", Bounds.state(few), state);
        s.due("undo()", few.undo(), 0);
        s.due("enabledConstraints()", few.enabledConstraints(), 7);
    }

    /** Each operand of each kind, out of range alone, just and far. */
    private void outOfRange(int[] size) {
        for (int kind = 0; kind < 5; kind++) {
            PointsToSolver x = Bounds.ofSize(size[0], size[1], size[2]);
            int constraints = x.constraintCount();
            for (int position = 0; position < 3; position++) {
                char place = PLACES[kind].charAt(position);
                int count = place == 'v' ? size[0] : place == 'o' ? size[1] : size[2];
                for (int wrong : place == '-' ? new int[] {0, -1, 1} : Bounds.outside(count)) {
                    int[] operands = RIGHT[kind].clone();
                    operands[position] = wrong;
                    s.due("kind " + kind + " with " + wrong + " at " + position,
                        x.addConstraint(kind, operands[0], operands[1], operands[2]), -1);
                }
                int[] highest = RIGHT[kind].clone();
                highest[position] = place == '-' ? ABSENT : count - 1;
                s.due("kind " + kind + " with the highest at " + position,
                    x.addConstraint(kind, highest[0], highest[1], highest[2]), constraints);
                x.undo();
            }
        }
    }

    private void promise47() {
        s.promise(47, "Enables or disables a constraint.");
        PointsToSolver x = small();
        x.setEnabled(1, false);
        s.due("disabled: enabledConstraints()", x.enabledConstraints(), 5);
        s.due("disabled: pointsTo(1)", x.pointsTo(1), 0);
        x.setEnabled(1, true);
        s.due("enabled: enabledConstraints()", x.enabledConstraints(), 7);
        s.due("enabled: pointsTo(1)", x.pointsTo(1), 2);

        s.promise(47, "Returns true if the state has changed");
        s.due("disable 0", x.setEnabled(0, false), true);
        s.due("enable 0", x.setEnabled(0, true), true);
        s.due("disable 2", x.setEnabled(2, false), true);
        PointsToSolver thirty = Texts.solve("new x o;".repeat(30));
        s.due("disable 29", thirty.setEnabled(29, false), true);
        s.due("enable 29", thirty.setEnabled(29, true), true);

        s.promise(47, "false, with nothing changed, if there is no such constraint or it is in that"
            + " state already.");
        String state = Bounds.state(x);
        for (int constraint : Bounds.outside(3)) {
            s.due("enable " + constraint, x.setEnabled(constraint, true), false);
            s.due("disable " + constraint, x.setEnabled(constraint, false), false);
        }
        s.due("enable 0", x.setEnabled(0, true), false);
        s.due("disable 2", x.setEnabled(2, false), false);
        s.dueText("the state", Bounds.state(x), state);
        for (int constraint : Bounds.outside(30)) {
            s.due("disable " + constraint + " of 30", thirty.setEnabled(constraint, false), false);
            s.due("enable " + constraint + " of 30", thirty.setEnabled(constraint, true), false);
        }
        s.due("undoDepth()", thirty.undoDepth(), 2);
        for (int constraint : Bounds.outside(0)) {
            s.due("of none", new PointsToSolver().setEnabled(constraint, false), false);
        }
    }

    private void promise48() {
        s.promise(48, "Undoes the latest change that has not been undone.");
        PointsToSolver x = small();
        String first = Bounds.state(x);
        x.setEnabled(0, false);
        String second = Bounds.state(x);
        x.addConstraint(STORE, 1, 0, 0);
        x.undo();
        s.dueText("an addition undone", Bounds.state(x), second);
        x.undo();
        s.dueText("a disabling undone", Bounds.state(x), first);
        PointsToSolver again = small();
        again.setEnabled(0, false);
        again.setEnabled(1, false);
        again.undo();
        again.setEnabled(2, false);
        again.undo();
        s.due("a change behind an undo", again.enabledConstraints(), 6);
        again.undo();
        s.due("the change before that undo", again.enabledConstraints(), 7);
        PointsToSolver enabled = small();
        enabled.setEnabled(0, false);
        enabled.setEnabled(0, true);
        enabled.undo();
        s.due("an enabling undone", enabled.enabledConstraints(), 6);

        s.promise(48, "Returns the number of changes that can still be undone");
        PointsToSolver many = small();
        for (int change = 0; change < 20; change++) {
            many.setEnabled(0, change % 2 == 1);
        }
        for (int left = 11; left >= 0; left--) {
            s.due("undo()", many.undo(), left);
        }
        many.setEnabled(1, false);
        s.due("undo() of one", many.undo(), 0);

        s.promise(48, "ABSENT if there was none to undo.");
        s.due("of nothing", new PointsToSolver().undo(), ABSENT);
        s.due("of a new program", small().undo(), ABSENT);
        s.due("behind twelve", many.undo(), ABSENT);
        s.due("and again", many.undo(), ABSENT);
        s.due("and changes nothing", many.enabledConstraints(), 7);
        many.saveSnapshot(0);
        many.setEnabled(0, false);
        many.restoreSnapshot(0);
        s.due("behind a restore", many.undo(), ABSENT);
        s.due("and changes nothing", many.enabledConstraints(), 7);
    }

    private void promise49() {
        s.promise(49, "Returns the number of changes that can be undone, 0 to 12.");
        PointsToSolver x = small();
        s.due("at first", x.undoDepth(), 0);
        for (int change = 1; change <= 30; change++) {
            x.setEnabled(0, change % 2 == 0);
            s.due("after " + change, x.undoDepth(), change < 12 ? change : 12);
        }
        x.undo();
        s.due("after an undo", x.undoDepth(), 11);
        x.addConstraint(COPY, 0, 0, ABSENT);
        s.due("after another change", x.undoDepth(), 12);
        x.addConstraint(COPY, 0, 0, ABSENT);
        s.due("after one more", x.undoDepth(), 12);
        for (int left = 11; left >= 0; left--) {
            x.undo();
            s.due("undone", x.undoDepth(), left);
        }
        x.undo();
        s.due("after an undo of nothing", x.undoDepth(), 0);
    }

    private void promise50() {
        s.promise(50, "Saves the list of constraints and which of them are enabled, in place of what the"
            + " slot held before.");
        PointsToSolver x = small();
        x.saveSnapshot(0);
        x.saveSnapshot(1);
        x.setEnabled(1, false);
        x.addConstraint(COPY, 2, 1, ABSENT);
        x.saveSnapshot(0);
        x.undo();
        x.restoreSnapshot(0);
        s.due("constraints in slot 0", x.constraintCount(), 4);
        s.due("enabled in slot 0", x.enabledConstraints(), 1 + 4 + 8);
        x.restoreSnapshot(1);
        s.due("constraints in slot 1", x.constraintCount(), 3);
        s.due("enabled in slot 1", x.enabledConstraints(), 7);
        PointsToSolver shorter = Texts.solve("new x o;".repeat(29));
        shorter.addConstraint(NEW, 0, 0, ABSENT);
        shorter.saveSnapshot(1);
        shorter.undo();
        shorter.saveSnapshot(1);
        shorter.addConstraint(COPY, 0, 0, ABSENT);
        shorter.restoreSnapshot(1);
        s.due("a shorter list in place of a longer", shorter.enabledConstraints(), 0x1fffffff);

        s.promise(50, "`slot`: 0 or 1");
        s.due("saveSnapshot(-1)", x.saveSnapshot(-1), false);
        s.due("saveSnapshot(0)", x.saveSnapshot(0), true);
        s.due("saveSnapshot(1)", x.saveSnapshot(1), true);
        s.due("saveSnapshot(2)", x.saveSnapshot(2), false);

        s.promise(50, "Returns true");
        s.due("saveSnapshot(0)", small().saveSnapshot(0), true);
        s.due("saveSnapshot(1)", small().saveSnapshot(1), true);
        s.due("saveSnapshot(0) again", x.saveSnapshot(0), true);
        s.due("of nothing", new PointsToSolver().saveSnapshot(1), true);

        s.promise(50, "false if there is no such slot.");
        PointsToSolver y = small();
        y.saveSnapshot(0);
        y.saveSnapshot(1);
        y.setEnabled(0, false);
        for (int slot : Bounds.outside(2)) {
            s.due("saveSnapshot(" + slot + ")", y.saveSnapshot(slot), false);
        }
        y.restoreSnapshot(1);
        s.due("slot 1 stays", y.enabledConstraints(), 7);
        y.setEnabled(0, false);
        y.restoreSnapshot(0);
        s.due("slot 0 stays", y.enabledConstraints(), 7);
    }

    private void promise51() {
        s.promise(51, "Restores a snapshot and clears the undo history.");
        PointsToSolver x = small();
        x.setEnabled(1, false);
        String state = Bounds.state(x);
        x.saveSnapshot(1);
        x.setEnabled(0, false);
        x.addConstraint(CALL, 0, 0, 0);
        s.due("undoDepth() before", x.undoDepth(), 3);
        x.restoreSnapshot(1);
        s.dueText("the state", Bounds.state(x), state.replace("undo 1", "undo 0"));
        s.due("undo()", x.undo(), ABSENT);
        x.setEnabled(2, false);
        s.due("undo() of a change since", x.undo(), 0);
        s.due("enabledConstraints()", x.enabledConstraints(), 5);

        s.promise(51, "The snapshot stays in its slot.");
        x.setEnabled(0, false);
        x.addConstraint(NEW, 0, 0, ABSENT);
        s.due("restoreSnapshot(1)", x.restoreSnapshot(1), true);
        s.due("constraintCount()", x.constraintCount(), 3);
        x.setEnabled(0, false);
        s.due("restoreSnapshot(1) again", x.restoreSnapshot(1), true);
        s.due("enabledConstraints()", x.enabledConstraints(), 5);

        s.promise(51, "`slot`: 0 or 1");
        PointsToSolver slots = small();
        slots.saveSnapshot(0);
        slots.saveSnapshot(1);
        s.due("restoreSnapshot(-1)", slots.restoreSnapshot(-1), false);
        s.due("restoreSnapshot(0)", slots.restoreSnapshot(0), true);
        s.due("restoreSnapshot(1)", slots.restoreSnapshot(1), true);
        s.due("restoreSnapshot(2)", slots.restoreSnapshot(2), false);

        s.promise(51, "Returns true");
        PointsToSolver both = small();
        both.saveSnapshot(0);
        both.saveSnapshot(1);
        s.due("restoreSnapshot(0)", both.restoreSnapshot(0), true);
        s.due("restoreSnapshot(1)", both.restoreSnapshot(1), true);
        PointsToSolver empty = new PointsToSolver();
        empty.saveSnapshot(0);
        s.due("of no constraints", empty.restoreSnapshot(0), true);

        s.promise(51, "false, with nothing changed, if there is no such slot or it is empty.");
        PointsToSolver one = small();
        one.saveSnapshot(1);
        one.setEnabled(0, false);
        String before = Bounds.state(one);
        s.due("restoreSnapshot(0), empty", one.restoreSnapshot(0), false);
        for (int slot : Bounds.outside(2)) {
            s.due("restoreSnapshot(" + slot + ")", one.restoreSnapshot(slot), false);
        }
        s.dueText("the state", Bounds.state(one), before);
        s.due("undo()", one.undo(), 0);
        for (int slot : Bounds.outside(2)) {
            s.due("restoreSnapshot(" + slot + ") with both full", both.restoreSnapshot(slot), false);
        }
        PointsToSolver other = small();
        other.saveSnapshot(0);
        s.due("restoreSnapshot(1), empty", other.restoreSnapshot(1), false);
        s.due("of nothing", new PointsToSolver().restoreSnapshot(0), false);
    }
}
