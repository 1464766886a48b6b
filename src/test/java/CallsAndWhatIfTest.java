/** Promises 37 to 43: calls, and what would be if constraints were disabled. */
public final class CallsAndWhatIfTest {
    private static final Checks CHECKS = new Checks();

    /** Objects f g n h; calls 3 and 4; the functions are f, g and h. */
    private static final String CALLS = "new x f;new x g;new x n;call a x b;call c y b;"
        + "fun f p r;fun g q s;fun h p r;copy y x;copy z x;";

    private static final String CHAIN =
        "new p a;new q b;store p f q;load r p f;copy s r;";

    public static void main(String[] args) {
        promise37CallTargets();
        promise38CallersOf();
        promise39UncalledFunctions();
        callsAtTheEnds();
        promise40FactCountIfToggled();
        promise41FactCountWithout();
        promise42MostInfluentialConstraint();
        promise43RedundantConstraintCount();
        trialsGoThroughAllRounds();
        trialsChangeNothing();
        CHECKS.end();
    }

    private static void due(String call, long got, long want) {
        CHECKS.due(call, got, want);
    }

    private static void promise37CallTargets() {
        PointsToSolver x = Texts.solve(CALLS);
        due("37 the first call", x.callTargets(3), 3);
        due("37 the second call", x.callTargets(4), 3);
        due("37 a new", x.callTargets(0), -1);
        due("37 a copy", x.callTargets(5), -1);
        due("37 none", x.callTargets(7), -1);
        due("37 a negative one", x.callTargets(-1), -1);
        due("37 the lowest int", x.callTargets(Integer.MIN_VALUE), -1);
        due("37 the highest int", x.callTargets(Integer.MAX_VALUE), -1);
        x.setEnabled(4, false);
        due("37 a disabled call", x.callTargets(4), 0);
        x.setEnabled(0, false);
        due("37 fewer functions", x.callTargets(3), 2);
        PointsToSolver others = Texts.solve("load a b f;store a f b;call a b c;new b o;");
        due("37 a load", others.callTargets(0), -1);
        due("37 a store", others.callTargets(1), -1);
        due("37 an object that is no function", others.callTargets(2), 0);
        others.setEnabled(0, false);
        due("37 a disabled load", others.callTargets(0), -1);
    }

    private static void promise38CallersOf() {
        PointsToSolver x = Texts.solve(CALLS);
        due("38 f", x.callersOf(0), 8 + 16);
        due("38 g", x.callersOf(1), 8 + 16);
        due("38 n, no function", x.callersOf(2), 0);
        due("38 h, not called", x.callersOf(3), 0);
        for (int object : new int[] {4, -1, Integer.MIN_VALUE, Integer.MAX_VALUE}) {
            due("38 no object", x.callersOf(object), -1);
        }
        x.setEnabled(3, false);
        due("38 f with a call disabled", x.callersOf(0), 16);
        x.setEnabled(5, false);
        due("38 f with no call that reaches it", x.callersOf(0), 0);
    }

    private static void promise39UncalledFunctions() {
        PointsToSolver x = Texts.solve(CALLS);
        due("39 h", x.uncalledFunctions(), 8);
        x.setEnabled(0, false);
        due("39 f and h", x.uncalledFunctions(), 9);
        x.setEnabled(3, false);
        x.setEnabled(4, false);
        due("39 all when no call is enabled", x.uncalledFunctions(), 11);
        x.undo();
        due("39 f and h by the other call", x.uncalledFunctions(), 9);
        due("39 no functions", Texts.solve("new a b;").uncalledFunctions(), 0);
    }

    private static void callsAtTheEnds() {
        PointsToSolver x = Texts.solve("call a x b;new x f;fun f p r;fun g p r;new y g;"
            + "new y n;".repeat(26) + "call a y b;");
        due("8 all thirty", x.constraintCount(), 30);
        due("37 the first constraint", x.callTargets(0), 1);
        due("37 the last constraint", x.callTargets(29), 2);
        due("38 by the first constraint", x.callersOf(0), 1);
        due("38 by the last constraint", x.callersOf(1), 1 << 29);
        due("39 both are called", x.uncalledFunctions(), 0);
        x.setEnabled(0, false);
        due("39 the first is not", x.uncalledFunctions(), 1);
        x.undo();
        x.setEnabled(29, false);
        due("39 the last is not", x.uncalledFunctions(), 2);
    }

    private static void promise40FactCountIfToggled() {
        PointsToSolver x = Texts.solve(CHAIN);
        int[] counts = {1, 1, 2, 3, 4};
        for (int constraint = 0; constraint < 5; constraint++) {
            due("40 of " + constraint, x.factCountIfToggled(constraint), counts[constraint]);
        }
        x.setEnabled(4, false);
        due("40 of a disabled one", x.factCountIfToggled(4), 5);
        due("40 of another", x.factCountIfToggled(3), 3);
        for (int constraint : new int[] {5, 30, 32, -1, Integer.MIN_VALUE, Integer.MAX_VALUE}) {
            due("40 of none", x.factCountIfToggled(constraint), -1);
        }
    }

    private static void promise41FactCountWithout() {
        PointsToSolver x = Texts.solve(CHAIN);
        due("41 nothing", x.factCountWithout(0), 5);
        due("41 everything", x.factCountWithout(31), 0);
        due("41 two", x.factCountWithout(24), 3);
        due("41 both news", x.factCountWithout(3), 0);
        due("41 a bit too many", x.factCountWithout(32), -1);
        due("41 a right and a wrong bit", x.factCountWithout(33), -1);
        due("41 the sign bit", x.factCountWithout(Integer.MIN_VALUE), -1);
        due("41 all bits", x.factCountWithout(-1), -1);
        x.setEnabled(4, false);
        due("41 one that is disabled already", x.factCountWithout(16), 4);
        due("41 it and another", x.factCountWithout(24), 3);
        due("41 another alone", x.factCountWithout(8), 3);
        PointsToSolver thirty = Texts.solve("new a o;".repeat(29) + "copy b a;");
        due("41 all thirty", thirty.factCountWithout((1 << 30) - 1), 0);
        due("41 all but the first of thirty", thirty.factCountWithout((1 << 30) - 2), 1);
        due("41 bit 30", thirty.factCountWithout(1 << 30), -1);
    }

    private static void promise42MostInfluentialConstraint() {
        PointsToSolver x = Texts.solve(CHAIN);
        due("42 a tie goes to the lowest", x.mostInfluentialConstraint(), 0);
        x.setEnabled(0, false);
        due("42 the only one left that loses a fact", x.mostInfluentialConstraint(), 1);
        x.setEnabled(1, false);
        due("42 none", x.mostInfluentialConstraint(), -2);
        due("42 two equal ones", Texts.solve("new x o;new x o;").mostInfluentialConstraint(), -2);
        PointsToSolver last = Texts.solve("new x o;copy y x;new y o;new z p;copy w z;");
        due("42 a later one that loses more", last.mostInfluentialConstraint(), 3);
        due("42 of nothing", new PointsToSolver().mostInfluentialConstraint(), -2);
    }

    private static void promise43RedundantConstraintCount() {
        due("43 of the chain", Texts.solve(CHAIN).redundantConstraintCount(), 0);
        PointsToSolver x = Texts.solve("new x o;new x o;copy x y;copy x x;");
        due("43 each alone", x.redundantConstraintCount(), 4);
        x.setEnabled(1, false);
        due("43 a disabled one does not count", x.redundantConstraintCount(), 2);
        PointsToSolver later = Texts.solve("new x o;copy y x;copy z y;copy z x;");
        due("43 either way to z, and no other", later.redundantConstraintCount(), 2);
        PointsToSolver used = Texts.solve("copy z y;copy z x;new x o;new y o;");
        due("43 either copy, and no other", used.redundantConstraintCount(), 2);
        due("43 of nothing", new PointsToSolver().redundantConstraintCount(), 0);
    }

    private static void trialsGoThroughAllRounds() {
        PointsToSolver copies = Texts.solve("copy e d;copy d c;copy c b;copy b a;new a o;new z p;");
        due("41 copies against the order", copies.factCountWithout(32), 5);
        due("40 copies against the order", copies.factCountIfToggled(5), 5);
        PointsToSolver loads = Texts.solve("load d x f;load c x g;store x g b;store x f c;"
            + "new x o;new b p;new a p;copy d d;");
        due("15 loads against the order", loads.factCount(), 7);
        due("41 loads against the order", loads.factCountWithout(64), 6);
        PointsToSolver calls = Texts.solve(
            "call d x c;call c x b;fun f p p;new x f;new b n;new z n;");
        due("15 calls against the order", calls.factCount(), 6);
        due("41 calls against the order", calls.factCountWithout(16), 5);
        PointsToSolver wide = Texts.solve("new a o;new a p;copy b a;new b q;copy a b;new c o;");
        due("15 sets that grow", wide.factCount(), 7);
        due("41 sets that grow", wide.factCountWithout(32), 6);
    }

    private static void trialsChangeNothing() {
        PointsToSolver x = Texts.solve(CHAIN);
        x.factCountIfToggled(0);
        x.factCountWithout(31);
        x.mostInfluentialConstraint();
        x.redundantConstraintCount();
        x.necessaryConstraints(3, 1);
        due("15 after trials", x.factCount(), 5);
        due("17 after trials", x.pointsTo(3), 2);
        due("9 after trials", x.enabledConstraints(), 31);
        due("49 after trials", x.undoDepth(), 0);
        due("29 after trials", x.edgeCount(), 3);
    }
}
