/** Promises 29 to 36: copy edges and their components. */
public final class EdgesTest {
    private static final Checks CHECKS = new Checks();

    /** b a c d e f g; the components are b a c, d e, f and g; no set holds anything. */
    private static final String CYCLES = "copy b a;copy c b;copy a c;copy d c;copy e d;"
        + "copy d e;copy f a;copy f c;load g f h;";

    public static void main(String[] args) {
        promise29EdgeCount();
        promise30HasEdge();
        promise31Distance();
        promises32And33Components();
        promises34To36Counts();
        edgesOfEachKind();
        changesChangeTheEdges();
        noSuchLocation();
        CHECKS.end();
    }

    private static void due(String call, long got, long want) {
        CHECKS.due(call, got, want);
    }

    private static void promise29EdgeCount() {
        due("29 of the cycles", Texts.solve(CYCLES).edgeCount(), 8);
        due("29 no edge twice", Texts.solve("copy a b;copy a b;copy b a;").edgeCount(), 2);
        due("29 none to itself", Texts.solve("copy a a;new a o;store a f a;load a a f;")
            .edgeCount(), 2);
        due("29 one by a copy and a call",
            Texts.solve("copy p z;call x y z;fun f p p;new y f;").edgeCount(), 2);
    }

    private static void promise30HasEdge() {
        PointsToSolver x = Texts.solve(CYCLES);
        due("30 a to b", x.hasEdge(1, 0), 1);
        due("30 b to a", x.hasEdge(0, 1), 0);
        due("30 c to f", x.hasEdge(2, 5), 1);
        due("30 f to g by an empty load", x.hasEdge(5, 6), 0);
        due("30 the same", x.hasEdge(3, 3), -1);
        PointsToSolver own = Texts.solve("copy a a;");
        due("30 the same with a copy", own.hasEdge(0, 0), -1);
    }

    private static void promise31Distance() {
        PointsToSolver x = Texts.solve(CYCLES);
        due("31 a to b", x.distance(1, 0), 1);
        due("31 b to a", x.distance(0, 1), 2);
        due("31 a to e", x.distance(1, 4), 4);
        due("31 a to f, the shorter way", x.distance(1, 5), 1);
        due("31 b to f", x.distance(0, 5), 2);
        due("31 e to a", x.distance(4, 1), -2);
        due("31 to g", x.distance(0, 6), -2);
        due("31 g to itself", x.distance(6, 6), 0);
        due("31 a to itself, in a cycle", x.distance(1, 1), 0);
        PointsToSolver y = Texts.solve("copy b a;copy c b;copy d c;copy e d;copy f e;copy g f;"
            + "copy h g;copy i h;copy j i;copy k j;copy l k;copy m l;copy n m;copy o n;copy p o;");
        due("31 the whole chain, a b c to p", y.distance(1, 15), 15);
        due("31 but for its ends", y.distance(0, 14), 13);
        due("31 and back", y.distance(15, 1), -2);
    }

    private static void promises32And33Components() {
        PointsToSolver x = Texts.solve(CYCLES);
        int[] sizes = {3, 3, 3, 2, 2, 1, 1};
        int[] lowest = {0, 0, 0, 3, 3, 5, 6};
        for (int location = 0; location < 7; location++) {
            due("32 of " + location, x.componentSize(location), sizes[location]);
            due("33 of " + location, x.representative(location), lowest[location]);
        }
        PointsToSolver fields = Texts.solve("new x a;store x f y;load y x f;");
        due("32 of a field", fields.componentSize(100), 2);
        due("33 of a field", fields.representative(100), 1);
        PointsToSolver onlyFields = Texts.solve(
            "new x a;new x b;store x f y;load y x f;load z x g;");
        due("32 of y and two fields", onlyFields.componentSize(104), 3);
        due("33 of a field alone", onlyFields.representative(105), 105);
        due("32 of a field alone", onlyFields.componentSize(105), 1);
    }

    private static void promises34To36Counts() {
        PointsToSolver x = Texts.solve(CYCLES);
        due("34 of the cycles", x.cyclicComponentCount(), 2);
        due("35 of the cycles", x.condensedNodeCount(), 4);
        due("36 of the cycles", x.condensedEdgeCount(), 2);
        PointsToSolver own = Texts.solve("copy a a;new a o;load b a f;");
        due("34 a copy to itself makes no cycle", own.cyclicComponentCount(), 0);
        due("35 variables and a field", own.condensedNodeCount(), 3);
        due("36 a load", own.condensedEdgeCount(), 1);
        due("36 to the first location", Texts.solve("copy a b;").condensedEdgeCount(), 1);
        PointsToSolver all = Texts.solve("call a b c;call d e f;call g h i;call j k l;"
            + "call m n o;copy p p;new a a;new a b;new a c;new a d;new a e;new a f;new a g;"
            + "new a h;new a i;new a j;load p a a;load p a b;load p a c;load p a d;");
        due("35 of all locations", all.condensedNodeCount(), 56);
        due("29 of all fields", all.edgeCount(), 40);
        due("36 of all fields", all.condensedEdgeCount(), 40);
        due("34 of all locations", all.cyclicComponentCount(), 0);
        all.addConstraint(PointsToSolver.STORE, 0, 3, 15);
        due("35 with the last field in a cycle", all.condensedNodeCount(), 46);
        due("36 with the last field in a cycle", all.condensedEdgeCount(), 30);
        due("32 with the last field in a cycle", all.componentSize(139), 11);
        due("33 with the last field in a cycle", all.representative(139), 15);
        due("31 between fields", all.distance(102, 139), 2);
        PointsToSolver both = Texts.solve("copy a b;copy c d;copy b a;copy d c;copy c a;copy d b;");
        due("36 two edges between two components", both.condensedEdgeCount(), 1);
    }

    private static void edgesOfEachKind() {
        PointsToSolver x = Texts.solve("new p a;new q b;store p f q;load r p f;copy s r;");
        due("a store", x.hasEdge(1, 100), 1);
        due("a store to another object", x.hasEdge(1, 104), 0);
        due("a load", x.hasEdge(100, 2), 1);
        due("a copy", x.hasEdge(2, 3), 1);
        due("29 of them", x.edgeCount(), 3);
        PointsToSolver call = Texts.solve("fun f p r;new y f;new y n;call x y z;fun g q s;");
        due("a call's argument, though it is empty", call.hasEdge(4, 0), 1);
        due("a call's result, though it is empty", call.hasEdge(1, 3), 1);
        due("a function that is not called", call.hasEdge(4, 5), 0);
        due("29 of a call", call.edgeCount(), 2);
    }

    private static void changesChangeTheEdges() {
        PointsToSolver x = Texts.solve("copy a b;copy b a;new c o;store c f a;");
        due("35 at first", x.condensedNodeCount(), 3);
        x.setEnabled(1, false);
        due("35 without a copy", x.condensedNodeCount(), 4);
        due("29 without a copy", x.edgeCount(), 2);
        x.setEnabled(2, false);
        due("29 without the via object", x.edgeCount(), 1);
        due("30 without the via object", x.hasEdge(0, 100), 0);
        x.undo();
        due("30 after an undo", x.hasEdge(0, 100), 1);
        x.addConstraint(PointsToSolver.LOAD, 1, 2, 0);
        due("32 with a load", x.componentSize(0), 3);
        due("31 with a load", x.distance(0, 1), 2);
        Texts.parse(x, "copy a b;");
        due("29 after a parse", x.edgeCount(), 1);
        due("35 after a parse", x.condensedNodeCount(), 2);
    }

    private static void noSuchLocation() {
        PointsToSolver x = Texts.solve("copy a b;new a o;load a a f;");
        for (int location : new int[] {2, 16, 56, 99, 101, 104, 140, -1, Integer.MIN_VALUE,
                Integer.MAX_VALUE}) {
            due("30 from " + location, x.hasEdge(location, 0), -1);
            due("30 to " + location, x.hasEdge(0, location), -1);
            due("31 from " + location, x.distance(location, 0), -1);
            due("31 to " + location, x.distance(0, location), -1);
            due("31 from it to itself", x.distance(location, location), -1);
            due("32 of " + location, x.componentSize(location), -1);
            due("33 of " + location, x.representative(location), -1);
        }
    }
}
