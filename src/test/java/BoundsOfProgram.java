/** The sentences of promises 5 to 14. */
final class BoundsOfProgram {
    /** What kindOf and operand answer here when they throw the document's exception. */
    static final int THROWN = -99;
    private static final int THROWN_ANOTHER = -100;

    private static final int ABSENT = PointsToSolver.ABSENT;

    private final Sentences s;

    BoundsOfProgram(Sentences s) {
        this.s = s;
    }

    void check() {
        promises5To7();
        promise8();
        promise9();
        promise10();
        promise11();
        promise12();
        promise12Throws();
        promise13();
        promise14();
    }

    static int kindOf(PointsToSolver x, int constraint) {
        try {
            return x.kindOf(constraint);
        } catch (RuntimeException e) {
            return thrown(e);
        }
    }

    static int operand(PointsToSolver x, int constraint, int position) {
        try {
            return x.operand(constraint, position);
        } catch (RuntimeException e) {
            return thrown(e);
        }
    }

    /** A class below the document's exception is one of the machine's, and wrong. */
    private static int thrown(RuntimeException e) {
        return e.getClass() == IndexOutOfBoundsException.class ? THROWN : THROWN_ANOTHER;
    }

    private void promises5To7() {
        s.promise(5, "Returns the number of variables.");
        s.due("of none", new PointsToSolver().variableCount(), 0);
        for (int[] size : Bounds.SIZES) {
            s.due("of " + size[0], Bounds.ofSize(size[0], size[1], size[2]).variableCount(), size[0]);
        }
        s.due("of fun alone", Texts.solve("fun o p r;").variableCount(), 2);
        PointsToSolver x = Texts.solve("new x o;copy y x;");
        x.setEnabled(1, false);
        s.due("with a constraint disabled", x.variableCount(), 2);

        s.promise(6, "Returns the number of objects.");
        s.due("of none", new PointsToSolver().objectCount(), 0);
        for (int[] size : Bounds.SIZES) {
            s.due("of " + size[1], Bounds.ofSize(size[0], size[1], size[2]).objectCount(), size[1]);
        }
        s.due("of fun alone", Texts.solve("fun o p r;").objectCount(), 1);

        s.promise(7, "Returns the number of fields.");
        s.due("of none", new PointsToSolver().fieldCount(), 0);
        for (int[] size : Bounds.SIZES) {
            s.due("of " + size[2], Bounds.ofSize(size[0], size[1], size[2]).fieldCount(), size[2]);
        }
        s.due("of a store and a load", Texts.solve("store x f x;load x x g;").fieldCount(), 2);
    }

    private void promise8() {
        s.promise(8, "Returns the number of constraints, enabled or not.");
        s.due("of none", new PointsToSolver().constraintCount(), 0);
        PointsToSolver x = Texts.solve("new x o;".repeat(29));
        s.due("of 29", x.constraintCount(), 29);
        x.addConstraint(PointsToSolver.NEW, 0, 0, ABSENT);
        s.due("of 30", x.constraintCount(), 30);
        x.addConstraint(PointsToSolver.NEW, 0, 0, ABSENT);
        s.due("after a refused one", x.constraintCount(), 30);
        for (int constraint = 0; constraint < 30; constraint++) {
            x.setEnabled(constraint, false);
        }
        s.due("with all of them disabled", x.constraintCount(), 30);
    }

    private void promise9() {
        s.promise(9, "Returns the bit set of the enabled constraints.");
        s.due("of none", new PointsToSolver().enabledConstraints(), 0);
        PointsToSolver x = Texts.solve("new x o;".repeat(30));
        s.due("of 30", x.enabledConstraints(), 0x3fffffff);
        x.setEnabled(29, false);
        s.due("without the last", x.enabledConstraints(), 0x1fffffff);
        for (int constraint = 0; constraint < 29; constraint++) {
            x.setEnabled(constraint, false);
        }
        s.due("with all of them disabled", x.enabledConstraints(), 0);
        x.setEnabled(29, true);
        s.due("the last alone", x.enabledConstraints(), 1 << 29);
        x.setEnabled(29, false);
        x.setEnabled(0, true);
        s.due("the first alone", x.enabledConstraints(), 1);
    }

    private void promise10() {
        s.promise(10, "Returns the bit set of the objects that are functions.");
        s.due("of no objects", new PointsToSolver().functions(), 0);
        s.due("of no functions", Bounds.ofSize(1, 10, 0).functions(), 0);
        StringBuilder text = new StringBuilder();
        for (char name = 'a'; name <= 'j'; name++) {
            text.append("fun ").append(name).append(" x x;");
        }
        PointsToSolver ten = Texts.solve(text.toString());
        s.due("of ten", ten.functions(), 1023);
        s.due("the last alone", Texts.solve("new x a;new x b;new x c;new x d;new x e;new x f;"
            + "new x g;new x h;new x i;fun j x x;").functions(), 512);
        s.due("the first alone", Texts.solve("fun a x x;new x b;").functions(), 1);
    }

    private void promise11() {
        PointsToSolver x = Texts.solve(
            "new x o;copy x y;load x y f;fun o x x;store x f y;call x y z;");
        s.promise(11, "Returns its kind: NEW, COPY, LOAD, STORE or CALL.");
        for (int constraint = 0; constraint < 5; constraint++) {
            s.due("kindOf(" + constraint + ")", kindOf(x, constraint), constraint);
        }
        PointsToSolver thirty = Texts.solve("new x o;".repeat(29) + "call x x x;");
        s.due("the last of 30", kindOf(thirty, 29), PointsToSolver.CALL);
        thirty.setEnabled(29, false);
        s.due("a disabled one", kindOf(thirty, 29), PointsToSolver.CALL);

        s.promise(11, "Throws `IndexOutOfBoundsException` if there is no such constraint");
        for (int constraint : Bounds.outside(5)) {
            s.due("kindOf(" + constraint + ") of 5", kindOf(x, constraint), THROWN);
        }
        for (int constraint : Bounds.outside(30)) {
            s.due("kindOf(" + constraint + ") of 30", kindOf(thirty, constraint), THROWN);
        }
        PointsToSolver none = Texts.solve("fun o p r;");
        for (int constraint : Bounds.outside(0)) {
            s.due("kindOf(" + constraint + ") of none", kindOf(none, constraint), THROWN);
        }
        x.addConstraint(PointsToSolver.NEW, 0, 0, ABSENT);
        x.undo();
        s.due("kindOf(5) undone", kindOf(x, 5), THROWN);
        Texts.parse(x, "new x o;");
        s.due("kindOf(1) of an earlier program", kindOf(x, 1), THROWN);
    }

    private void dueOperands(PointsToSolver x, int constraint, int... operands) {
        for (int position = 0; position < 3; position++) {
            s.due("operand(" + constraint + ", " + position + ")", operand(x, constraint, position),
                operands[position]);
        }
    }

    private void promise12() {
        s.promise(12,
            "Returns an operand of a constraint, in the order in which operands stand in the text.");
        PointsToSolver x = Texts.solve("copy a b;new c o;new d p;load d c f;call b d a;");
        dueOperands(x, 0, 0, 1, ABSENT);
        dueOperands(x, 1, 2, 0, ABSENT);
        dueOperands(x, 2, 3, 1, ABSENT);
        dueOperands(x, 3, 3, 2, 0);
        dueOperands(x, 4, 1, 3, 0);
        x.addConstraint(PointsToSolver.CALL, 3, 2, 1);
        dueOperands(x, 5, 3, 2, 1);

        s.promise(12, "For example, the operands of \"store x f y\" are the variable x, the field f"
            + " and the variable y.");
        PointsToSolver store = Texts.solve("load a y e;store x f y;");
        dueOperands(store, 1, 2, 1, 1);

        s.promise(12, "Returns the number of the variable, object or field");
        PointsToSolver highest = Bounds.ofSize(16, 10, 4);
        dueOperands(highest, 15, 15, 15, ABSENT);
        dueOperands(highest, 25, 0, 9, ABSENT);
        dueOperands(highest, 29, 0, 0, 3);

        s.promise(12, "ABSENT for position 2 of new and copy, which have two operands.");
        s.due("of new", operand(highest, 25, 2), ABSENT);
        s.due("of copy", operand(highest, 0, 2), ABSENT);
        PointsToSolver added = Texts.solve("call a b c;new a o;");
        added.addConstraint(PointsToSolver.NEW, 0, 0, ABSENT);
        added.addConstraint(PointsToSolver.COPY, 0, 0, ABSENT);
        s.due("of new in a text", operand(added, 1, 2), ABSENT);
        s.due("of an added new", operand(added, 2, 2), ABSENT);
        s.due("of an added copy", operand(added, 3, 2), ABSENT);
    }

    private void promise12Throws() {
        s.promise(12, "`position`: 0, 1 or 2");
        PointsToSolver x = Texts.solve("new x o;copy x y;load x y f;store x f y;call x y z;");
        dueOperands(x, 4, 0, 1, 2);
        s.due("position 3", operand(x, 4, 3), THROWN);
        s.due("position -1", operand(x, 4, -1), THROWN);

        s.promise(12, "Throws `IndexOutOfBoundsException` if there is no such constraint or position"
            + " is not 0 to 2");
        for (int constraint : Bounds.outside(5)) {
            s.due("operand(" + constraint + ", 1)", operand(x, constraint, 1), THROWN);
        }
        for (int position : Bounds.outside(3)) {
            s.due("operand(0, " + position + ")", operand(x, 0, position), THROWN);
            s.due("operand(2, " + position + ")", operand(x, 2, position), THROWN);
        }
        s.due("operand(5, 3)", operand(x, 5, 3), THROWN);
        s.due("operand(-1, -1)", operand(x, -1, -1), THROWN);
        s.due("of no program", operand(new PointsToSolver(), 0, 0), THROWN);
        PointsToSolver thirty = Texts.solve("copy x x;".repeat(30));
        s.due("the last of 30", operand(thirty, 29, 1), 0);
        s.due("past 30", operand(thirty, 30, 1), THROWN);
    }

    private void promise13() {
        PointsToSolver x = Texts.solve("copy a b;fun f c d;new a o;fun g b a;");
        s.promise(13, "Returns the parameter variable of a function");
        s.due("of f", x.parameterOf(0), 2);
        s.due("of g", x.parameterOf(2), 1);
        s.due("the last variable of the last object", Texts.solve(
            "copy a b;copy c d;copy e f;copy g h;copy i j;copy k l;copy m n;copy o o;new a a;new a b;"
            + "new a c;new a d;new a e;new a f;new a g;new a h;new a i;fun j p a;").parameterOf(9), 15);
        s.promise(13, "INVALID if there is no such object");
        Bounds.invalid(s, "parameterOf", Bounds.outside(3), x::parameterOf);
        Bounds.invalid(s, "parameterOf, of no object", Bounds.outside(0),
            new PointsToSolver()::parameterOf);
        Bounds.invalid(s, "parameterOf, of ten", Bounds.outside(10),
            Bounds.ofSize(1, 10, 0)::parameterOf);
        s.promise(13, "ABSENT if it is not a function.");
        s.due("of o", x.parameterOf(1), ABSENT);
        Texts.parse(x, "new a b;fun c a a;");
        s.due("of what was a function in an earlier program", x.parameterOf(0), ABSENT);
        s.due("of the last of ten", Bounds.ofSize(1, 10, 0).parameterOf(9), ABSENT);
    }

    private void promise14() {
        PointsToSolver x = Texts.solve("copy a b;fun f c d;new a o;fun g b a;");
        s.promise(14, "Returns the result variable of a function");
        s.due("of f", x.resultOf(0), 3);
        s.due("of g", x.resultOf(2), 0);
        s.due("the last variable of the last object", Texts.solve(
            "copy a b;copy c d;copy e f;copy g h;copy i j;copy k l;copy m n;copy o o;new a a;new a b;"
            + "new a c;new a d;new a e;new a f;new a g;new a h;new a i;fun j a p;").resultOf(9), 15);
        s.promise(14, "INVALID if there is no such object");
        Bounds.invalid(s, "resultOf", Bounds.outside(3), x::resultOf);
        Bounds.invalid(s, "resultOf, of no object", Bounds.outside(0), new PointsToSolver()::resultOf);
        Bounds.invalid(s, "resultOf, of ten", Bounds.outside(10), Bounds.ofSize(1, 10, 0)::resultOf);
        s.promise(14, "ABSENT if it is not a function.");
        s.due("of o", x.resultOf(1), ABSENT);
        Texts.parse(x, "new a b;fun c a a;");
        s.due("of what was a function in an earlier program", x.resultOf(0), ABSENT);
        s.due("of the last of ten", Bounds.ofSize(1, 10, 0).resultOf(9), ABSENT);
    }
}
