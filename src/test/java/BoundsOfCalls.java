/** The sentences of promises 37 to 45: calls, what if, and the dump. */
final class BoundsOfCalls {
    private static final int ABSENT = PointsToSolver.ABSENT;

    /** Variables x a b c y z p r q s; objects f g n h; calls 3 and 4; n is no function. */
    private static final String CALLS = "new x f;new x g;new x n;call a x b;call c y b;fun f p r;"
        + "fun g q s;fun h p r;copy y x;copy z x;";

    private static final String CHAIN = "new p a;new q b;store p f q;load r p f;copy s r;";

    private final Sentences s;

    BoundsOfCalls(Sentences s) {
        this.s = s;
    }

    void check() {
        promise37();
        promise38();
        promise39();
        promise40();
        promise41();
        promise42();
        promise43();
        promise44();
        promise45();
    }

    /** Ten functions a to j, which variable a holds; calls of a, and of b, which holds nothing. */
    private static PointsToSolver tenFunctions() {
        StringBuilder text = new StringBuilder();
        for (char name = 'a'; name <= 'j'; name++) {
            text.append("new a ").append(name).append(";fun ").append(name).append(" p r;");
        }
        text.append("call x b z;call x a z;");
        return Texts.solve(text.toString());
    }

    private static String thirtyWithCallsAtTheEnds() {
        return "call a x b;new x f;fun f p r;fun g p r;new y g;" + "new y n;".repeat(26) + "call a y b;";
    }

    private void promise37() {
        s.promise(37,
            "Returns the bit set of the functions in the set of y, for a constraint call x y z");
        PointsToSolver x = Texts.solve(CALLS);
        s.due("of two functions and an object that is none", x.callTargets(3), 3);
        s.due("of the same by a copy", x.callTargets(4), 3);
        x.setEnabled(0, false);
        s.due("of one function", x.callTargets(3), 2);
        x.setEnabled(1, false);
        s.due("of no function", x.callTargets(3), 0);
        s.due("of ten", tenFunctions().callTargets(11), 1023);
        s.due("of an empty set", tenFunctions().callTargets(10), 0);
        PointsToSolver ends = Texts.solve(thirtyWithCallsAtTheEnds());
        s.due("of constraint 0", ends.callTargets(0), 1);
        s.due("of constraint 29", ends.callTargets(29), 2);

        s.promise(37, "0 if it is disabled");
        ends.setEnabled(29, false);
        s.due("of constraint 29, disabled", ends.callTargets(29), 0);
        ends.setEnabled(0, false);
        s.due("of constraint 0, disabled", ends.callTargets(0), 0);
        ends.undo();
        s.due("of constraint 0, enabled again", ends.callTargets(0), 1);

        s.promise(37, "INVALID if there is no such constraint or it is not a call.");
        PointsToSolver kinds = Texts.solve("new y o;copy x y;load x y f;store x f y;call x y z;");
        for (int constraint = 0; constraint < 4; constraint++) {
            s.due("of a constraint that is not a call", kinds.callTargets(constraint), -1);
        }
        s.due("of the call", kinds.callTargets(4), 0);
        Bounds.invalid(s, "callTargets", Bounds.outside(5), kinds::callTargets);
        Bounds.invalid(s, "callTargets, of 30", Bounds.outside(30),
            Texts.solve(thirtyWithCallsAtTheEnds())::callTargets);
        Bounds.invalid(s, "callTargets, of none", Bounds.outside(0),
            new PointsToSolver()::callTargets);
    }

    private void promise38() {
        s.promise(38, "Returns the bit set of the enabled call constraints that have this function"
            + " among their targets, 0 for an object that is not a function");
        PointsToSolver x = Texts.solve(CALLS);
        s.due("of f", x.callersOf(0), 8 + 16);
        s.due("of n, which is not a function", x.callersOf(2), 0);
        s.due("of h, which is not called", x.callersOf(3), 0);
        x.setEnabled(3, false);
        s.due("of f with a call disabled", x.callersOf(0), 16);
        x.setEnabled(5, false);
        s.due("of f with the other call's function gone", x.callersOf(0), 0);
        PointsToSolver ends = Texts.solve(thirtyWithCallsAtTheEnds());
        s.due("by constraint 0", ends.callersOf(0), 1);
        s.due("by constraint 29", ends.callersOf(1), 1 << 29);
        s.due("of the last of ten", tenFunctions().callersOf(9), 1 << 11);

        s.promise(38, "INVALID if there is no such object.");
        Bounds.invalid(s, "callersOf", Bounds.outside(4), x::callersOf);
        Bounds.invalid(s, "callersOf, of ten", Bounds.outside(10), tenFunctions()::callersOf);
        Bounds.invalid(s, "callersOf, of none", Bounds.outside(0), new PointsToSolver()::callersOf);
    }

    private void promise39() {
        s.promise(39, "Returns the bit set of the functions that are not a target of any enabled call"
            + " constraint.");
        s.due("of nothing", new PointsToSolver().uncalledFunctions(), 0);
        s.due("of no functions", Texts.solve("new y o;call x y z;").uncalledFunctions(), 0);
        PointsToSolver x = Texts.solve(CALLS);
        s.due("of h", x.uncalledFunctions(), 8);
        x.setEnabled(3, false);
        s.due("with the other call left", x.uncalledFunctions(), 8);
        x.setEnabled(4, false);
        s.due("with no call left", x.uncalledFunctions(), 1 + 2 + 8);
        s.due("of ten, all called", tenFunctions().uncalledFunctions(), 0);
        PointsToSolver ten = tenFunctions();
        ten.setEnabled(11, false);
        s.due("of ten, none called", ten.uncalledFunctions(), 1023);
        PointsToSolver ends = Texts.solve(thirtyWithCallsAtTheEnds());
        ends.setEnabled(29, false);
        s.due("without constraint 29", ends.uncalledFunctions(), 2);
        ends.undo();
        ends.setEnabled(0, false);
        s.due("without constraint 0", ends.uncalledFunctions(), 1);
    }

    private void promise40() {
        s.promise(40, "Returns the number of facts there would be if this constraint were disabled (if"
            + " it is enabled now) or enabled (if it is disabled now)");
        PointsToSolver x = Texts.solve(CHAIN);
        s.due("of the first new", x.factCountIfToggled(0), 1);
        s.due("of the copy", x.factCountIfToggled(4), 4);
        x.setEnabled(0, false);
        s.due("of the new that is disabled", x.factCountIfToggled(0), 5);
        s.due("of another", x.factCountIfToggled(1), 0);
        s.due("facts now", x.factCount(), 1);
        s.due("the new stays disabled", x.enabledConstraints(), 30);
        PointsToSolver last = Texts.solve("new x o;".repeat(29) + "copy y x;");
        s.due("of the last of 30", last.factCountIfToggled(29), 1);
        last.setEnabled(29, false);
        s.due("of the last of 30, disabled", last.factCountIfToggled(29), 2);
        PointsToSolver loads = Texts.solve("load d x f;load c x g;store x g b;store x f c;new x o;"
            + "new b p;new a p;copy d d;");
        s.due("of a new beside what takes five rounds", loads.factCountIfToggled(6), 6);
        s.due("of a new that all the others need", loads.factCountIfToggled(4), 2);
        s.due("of a call in the fullest", BoundsOfSolution.fullest().factCountIfToggled(15),
            560 - 10 * 9 - 10);

        s.promise(40, "INVALID if there is no such constraint.");
        Bounds.invalid(s, "factCountIfToggled", Bounds.outside(5), x::factCountIfToggled);
        Bounds.invalid(s, "factCountIfToggled, of 30", Bounds.outside(30), last::factCountIfToggled);
        Bounds.invalid(s, "factCountIfToggled, of none", Bounds.outside(0),
            new PointsToSolver()::factCountIfToggled);
    }

    private void promise41() {
        s.promise(41,
            "Returns the number of facts there would be if all these constraints were disabled");
        PointsToSolver x = Texts.solve(CHAIN);
        s.due("none of them", x.factCountWithout(0), 5);
        s.due("the first", x.factCountWithout(1), 1);
        s.due("the last", x.factCountWithout(16), 4);
        s.due("two", x.factCountWithout(24), 3);
        s.due("all of them", x.factCountWithout(31), 0);
        s.due("facts now", x.factCount(), 5);
        PointsToSolver copies = Texts.solve("copy e d;copy d c;copy c b;copy b a;new a o;new z p;");
        s.due("a new beside what takes five rounds", copies.factCountWithout(32), 5);
        PointsToSolver calls = Texts.solve("call d x c;call c x b;fun f p p;new x f;new b n;new z n;");
        s.due("a new beside calls of calls", calls.factCountWithout(16), 5);
        PointsToSolver wide = Texts.solve("new a o;new a p;copy b a;new b q;copy a b;new c o;");
        s.due("a new beside sets that grow", wide.factCountWithout(32), 6);
        PointsToSolver thirty = Texts.solve("new x o;".repeat(29) + "copy y x;");
        s.due("all of 30", thirty.factCountWithout(0x3fffffff), 0);
        s.due("all of 30 but the first", thirty.factCountWithout(0x3ffffffe), 1);
        s.due("the last of 30", thirty.factCountWithout(1 << 29), 1);
        s.due("of nothing", new PointsToSolver().factCountWithout(0), 0);

        s.promise(41, "those that are disabled already may be among them.");
        x.setEnabled(4, false);
        s.due("the disabled one", x.factCountWithout(16), 4);
        s.due("it and another", x.factCountWithout(24), 3);
        s.due("another without it", x.factCountWithout(8), 3);
        s.due("none of them", x.factCountWithout(0), 4);

        s.promise(41, "INVALID if the set contains a bit that is not a constraint.");
        for (int bit = 5; bit < 32; bit++) {
            s.due("bit " + bit, x.factCountWithout(1 << bit), -1);
            s.due("bit " + bit + " and right ones", x.factCountWithout(1 << bit | 31), -1);
        }
        s.due("all bits", x.factCountWithout(-1), -1);
        s.due("bit 30 of 30", thirty.factCountWithout(1 << 30), -1);
        s.due("bit 31 of 30", thirty.factCountWithout(1 << 31), -1);
        s.due("all bits of 30", thirty.factCountWithout(-1), -1);
        for (int bit = 0; bit < 32; bit++) {
            s.due("bit " + bit + " of none", new PointsToSolver().factCountWithout(1 << bit), -1);
        }
    }

    private void promise42() {
        s.promise(42, "Finds the enabled constraint whose disabling alone would lose the most facts.");
        PointsToSolver x = Texts.solve("new x o;copy y x;new z p;copy w z;copy v w;");
        s.due("the third", x.mostInfluentialConstraint(), 2);
        x.setEnabled(4, false);
        x.setEnabled(3, false);
        s.due("the first", x.mostInfluentialConstraint(), 0);
        x.setEnabled(0, false);
        s.due("the only one that loses a fact", x.mostInfluentialConstraint(), 2);
        PointsToSolver last = Texts.solve("new x o;".repeat(29) + "new y p;");
        s.due("the last of 30", last.mostInfluentialConstraint(), 29);

        s.promise(42, "Ties go to the lowest number.");
        s.due("a chain's two news", Texts.solve(CHAIN).mostInfluentialConstraint(), 0);
        s.due("two news", Texts.solve("new x o;new y o;").mostInfluentialConstraint(), 0);
        s.due("a tie behind one that loses less",
            Texts.solve("new x o;new x o;new z o;new y o;copy a z;copy b y;")
                .mostInfluentialConstraint(), 2);

        s.promise(42, "Returns that constraint");
        s.due("of one new", Texts.solve("new x o;").mostInfluentialConstraint(), 0);

        s.promise(42, "ABSENT if no single constraint's disabling would lose a fact.");
        s.due("of nothing", new PointsToSolver().mostInfluentialConstraint(), ABSENT);
        s.due("of no facts", Texts.solve("copy x y;").mostInfluentialConstraint(), ABSENT);
        PointsToSolver twice = Texts.solve("new x o;new x o;copy y x;copy y x;");
        s.due("of everything twice", twice.mostInfluentialConstraint(), ABSENT);
        twice.setEnabled(3, false);
        s.due("of all but one twice", twice.mostInfluentialConstraint(), 2);
        PointsToSolver off = Texts.solve("new x o;");
        off.setEnabled(0, false);
        s.due("of a disabled new", off.mostInfluentialConstraint(), ABSENT);
    }

    private void promise43() {
        s.promise(43, "Returns the number of enabled constraints each of which could alone be disabled"
            + " without losing a fact.");
        s.due("of nothing", new PointsToSolver().redundantConstraintCount(), 0);
        s.due("of a chain", Texts.solve(CHAIN).redundantConstraintCount(), 0);
        PointsToSolver twice = Texts.solve("new x o;new x o;copy x x;copy y z;");
        s.due("two that do as well alone, and two that add nothing",
            twice.redundantConstraintCount(), 4);
        twice.setEnabled(1, false);
        s.due("a disabled one is not counted", twice.redundantConstraintCount(), 2);
        s.due("all of 30", Texts.solve("new x o;".repeat(30)).redundantConstraintCount(), 30);
        s.due("the last of 30",
            Texts.solve("new x o;".repeat(29) + "new y p;").redundantConstraintCount(), 29);
        s.due("the later of two ways, and the sooner",
            Texts.solve("new x o;copy y x;copy z y;copy z x;").redundantConstraintCount(), 2);
    }

    private void dumped(String text, String dump) {
        PointsToSolver x = Texts.solve(text);
        s.due("length of " + text, x.dumpLength(), dump.length());
        s.dueText("dump of " + text, Texts.dump(x), dump);
    }

    /** Sixteen variables of six letters, each holding ten objects of six letters. */
    private void longestDump() {
        StringBuilder text = new StringBuilder();
        StringBuilder objects = new StringBuilder();
        for (char name = 'a'; name <= 'j'; name++) {
            text.append("new vvvvva ooooo").append(name).append(';');
            objects.append(" ooooo").append(name);
        }
        StringBuilder dump = new StringBuilder("vvvvva" + objects + ";");
        for (char name = 'b'; name <= 'p'; name++) {
            text.append("copy vvvvv").append(name).append(" vvvvva;");
            dump.append("vvvvv").append(name).append(objects).append(';');
        }
        PointsToSolver x = Texts.solve(text.toString());
        s.due("length of the longest dump", x.dumpLength(), 16 * (6 + 10 * 7 + 1));
        for (int index = 0; index < dump.length(); index++) {
            if (index % 400 == 0) {
                x = Texts.solve(text.toString());
            }
            s.due("byte " + index + " of the longest dump", x.dumpByte(index), dump.charAt(index));
        }
        s.due("byte past the longest dump", x.dumpByte(1232), -1);
    }

    private void promise44() {
        s.promise(44, "The dump is a text with one entry for each variable whose set is not empty, in"
            + " the order of their numbers: the variable's name, then a space and an object's name for"
            + " each object in the set in the order of their numbers, then a semicolon.");
        dumped("new x o;", "x o;");
        dumped("copy x y;new y o;copy z w;", "x o;y o;");
        dumped("new y b;new x a;new y a;", "y b a;x a;");
        dumped("new x o;new y p;store x f y;", "x o;y p;");
        dumped("new abcdef zzzzzz;new a z;", "abcdef zzzzzz;a z;");
        dumped("fun q p r;new x o;new x q;", "x q o;");
        longestDump();

        s.promise(44, "Returns the length of the dump in bytes.");
        s.due("of nothing", new PointsToSolver().dumpLength(), 0);
        s.due("of empty sets", Texts.solve("copy x y;load x y f;").dumpLength(), 0);
        s.due("of one new", Texts.solve("new x o;").dumpLength(), 4);
        s.due("of long names", Texts.solve("new abcdef zzzzzz;").dumpLength(), 14);
        PointsToSolver x = Texts.solve("new x o;new y p;");
        x.setEnabled(0, false);
        s.due("of what is enabled", x.dumpLength(), 4);
    }

    private void promise45() {
        s.promise(45, "Returns the byte of the dump at that index");
        PointsToSolver x = Texts.solve("new ab cd;");
        String dump = "ab cd;";
        for (int index = 0; index < 6; index++) {
            s.due("dumpByte(" + index + ")", x.dumpByte(index), dump.charAt(index));
        }
        s.due("the letter z", Texts.solve("new z z;").dumpByte(0), 122);

        s.promise(45, "INVALID if index is negative or not less than the length of the dump.");
        Bounds.invalid(s, "dumpByte", Bounds.outside(6), x::dumpByte);
        Bounds.invalid(s, "dumpByte, of nothing", Bounds.outside(0), new PointsToSolver()::dumpByte);
        x.setEnabled(0, false);
        Bounds.invalid(s, "dumpByte, of a dump that became empty", Bounds.outside(0), x::dumpByte);
        PointsToSolver shorter = Texts.solve("new abcdef o;");
        shorter.dumpLength();
        Texts.parse(shorter, "new x o;");
        Bounds.invalid(s, "dumpByte, of a dump that became shorter", Bounds.outside(4),
            shorter::dumpByte);
    }
}
