/** The sentences on LOCATIONS, on POINTS-TO SETS and in promises 15 to 20. */
final class BoundsOfSolution {
    private static final int NEW = PointsToSolver.NEW, COPY = PointsToSolver.COPY;
    private static final int ABSENT = PointsToSolver.ABSENT;

    /** Variable x holds all ten objects. */
    private static final String ALL_OBJECTS = "new x a;new x b;new x c;new x d;new x e;new x f;"
        + "new x g;new x h;new x i;new x j;";

    private final Sentences s;

    BoundsOfSolution(Sentences s) {
        this.s = s;
    }

    void check() {
        locations();
        emptySets();
        rounds();
        news();
        copies();
        loads();
        stores();
        calls();
        lastRound();
        enabledNow();
        bitSets();
        promises15And16();
        promise17();
        promise18();
        promise19();
        promise20();
    }

    private void locations() {
        s.description("17", "As an int, variable v is the location v");
        PointsToSolver x = Texts.solve("new a o;new b p;new c q;");
        s.due("pointsTo(0)", x.pointsTo(0), 1);
        s.due("pointsTo(1)", x.pointsTo(1), 2);
        s.due("pointsTo(2)", x.pointsTo(2), 4);

        s.description("17", "field f of object o is the location 100 + 4 * o + f.");
        PointsToSolver y = Texts.solve("new x o;new y p;new v o;new v p;new v q;store x f v;"
            + "new w p;store y g w;load z y h;load z y i;new u q;store y i u;");
        s.due("o.f", y.pointsTo(100), 7);
        s.due("o.g", y.pointsTo(101), 0);
        s.due("o.i", y.pointsTo(103), 0);
        s.due("p.f", y.pointsTo(104), 0);
        s.due("p.g", y.pointsTo(105), 2);
        s.due("p.i", y.pointsTo(107), 4);

        s.description("17, 19 and 21 to 33",
            "Every declared variable, and every declared field of every declared object, is a"
            + " location.");
        for (int[] size : Bounds.SIZES) {
            PointsToSolver sized = Bounds.ofSize(size[0], size[1], size[2]);
            for (int variable = 0; variable < size[0]; variable++) {
                s.due("variable " + variable, sized.pointsTo(variable),
                    variable == 0 ? (1 << size[1]) - 1 : 0);
            }
            for (int object = 0; object < size[1]; object++) {
                for (int field = 0; field < size[2]; field++) {
                    int location = 100 + 4 * object + field;
                    s.due("location " + location, sized.pointsTo(location), 0);
                    s.due("component of " + location, sized.componentSize(location), 1);
                }
            }
        }
        PointsToSolver fun = Texts.solve("fun o p r;load p p f;");
        s.due("a field of a function that nothing holds", fun.pointsTo(100), 0);
        s.due("its result", fun.pointsTo(1), 0);

        s.description("17, 19 and 21 to 33", "No other int is one.");
        for (int[] size : Bounds.SIZES) {
            noOtherLocation(size);
        }
        Bounds.invalid(s, "pointsTo, of nothing", Bounds.noLocations(0, 0, 0),
            new PointsToSolver()::pointsTo);
    }

    private void noOtherLocation(int[] size) {
        int[] none = Bounds.noLocations(size[0], size[1], size[2]);
        Bounds.invalid(s, "pointsTo", none, Bounds.ofSize(size[0], size[1], size[2])::pointsTo);
        PointsToSolver graph = Bounds.ofSize(size[0], size[1], size[2]);
        Bounds.invalid(s, "componentSize", none, graph::componentSize);
        PointsToSolver common = Bounds.ofSize(size[0], size[1], size[2]);
        Bounds.invalid(s, "commonObjects", none, location -> common.commonObjects(0, location));
        PointsToSolver edge = Bounds.ofSize(size[0], size[1], size[2]);
        Bounds.invalid(s, "hasEdge", none, location -> edge.hasEdge(location, 0));
        PointsToSolver round = Bounds.ofSize(size[0], size[1], size[2]);
        Bounds.invalid(s, "roundOf", none, location -> round.roundOf(location, 0));
    }

    private void emptySets() {
        s.description("17", "Each location has a set of objects, which is empty at first.");
        PointsToSolver x = Texts.solve("copy x y;load y x f;store x f y;call y x z;fun o p r;");
        for (int location : new int[] {0, 1, 2, 3, 4, 100}) {
            s.due("pointsTo(" + location + ")", x.pointsTo(location), 0);
        }
        Texts.parse(x, "new x o;");
        Texts.parse(x, "copy x y;fun o x y;");
        s.due("pointsTo(0) of the next program", x.pointsTo(0), 0);

        s.description("15", "A fact is a pair of a location and an object in its set.");
        PointsToSolver facts = Texts.solve("new x a;new x b;store x f x;new x a;");
        s.due("factCount()", facts.factCount(), 2 + 2 * 2);
        s.due("roundOf(0, 1)", facts.roundOf(0, 1), 1);
        s.due("roundOf(104, 0)", facts.roundOf(104, 0), 2);
        s.due("factCount() without facts", Texts.solve("copy x y;").factCount(), 0);
    }

    private void rounds() {
        s.description("16 and 21", "The solver works in rounds 1, 2, and so on.");
        PointsToSolver x = Texts.solve("new a o;copy b a;copy c b;");
        s.due("roundOf(0, 0)", x.roundOf(0, 0), 1);
        s.due("roundOf(1, 0)", x.roundOf(1, 0), 2);
        s.due("roundOf(2, 0)", x.roundOf(2, 0), 3);

        s.description("16 and 21", "In each round, all enabled constraints are applied at once to the"
            + " sets as they were at the beginning of the round:");
        PointsToSolver back = Texts.solve("copy c b;copy b a;new a o;");
        s.due("a copy before its source's copy", back.roundOf(0, 0), 3);
        PointsToSolver load = Texts.solve("new x o;new y p;store x f y;load z x f;");
        s.due("a store behind its news", load.roundOf(100, 1), 2);
        s.due("a load behind its store", load.roundOf(2, 1), 3);
        PointsToSolver call = Texts.solve("new y f;new z n;call x y z;copy r p;fun f p r;copy w x;");
        s.due("a call behind its news", call.roundOf(4, 1), 2);
        s.due("a copy of its parameter", call.roundOf(3, 1), 3);
        s.due("a call's result", call.roundOf(2, 1), 4);
        s.due("a copy of its result", call.roundOf(5, 1), 5);
        PointsToSolver own = Texts.solve("new x f;call x x x;fun f r r;");
        s.due("an argument's parameter", own.roundOf(1, 0), 2);
        PointsToSolver off = Texts.solve("new a o;copy b a;copy c b;copy c a;");
        off.setEnabled(3, false);
        s.due("a disabled copy is not applied", off.roundOf(2, 0), 3);
        off.setEnabled(3, true);
        s.due("an enabled copy is", off.roundOf(2, 0), 2);
    }

    private void news() {
        s.description("17", "new x o: adds o to the set of x.");
        PointsToSolver all = Texts.solve(ALL_OBJECTS + "new y j;");
        s.due("all objects", all.pointsTo(0), 1023);
        s.due("the last object", all.pointsTo(1), 512);
    }

    private void copies() {
        s.description("17", "copy x y: adds the set of y to the set of x.");
        PointsToSolver all = Texts.solve(ALL_OBJECTS + "copy y x;copy z w;copy x x;");
        s.due("all objects", all.pointsTo(1), 1023);
        s.due("of an empty set", all.pointsTo(2), 0);
        s.due("the source stays empty", all.pointsTo(3), 0);
        s.due("of itself", all.pointsTo(0), 1023);
        PointsToSolver added = Texts.solve("new x a;new y b;copy x y;");
        s.due("to what is there", added.pointsTo(0), 3);
        s.due("not the other way", added.pointsTo(1), 2);
    }

    private void loads() {
        s.description("17", "load x y f: for each object o in the set of y, adds the set of field f of"
            + " o to the set of x.");
        PointsToSolver x = Texts.solve("new y a;new z b;new u c;new v d;store y f u;store z f v;"
            + "store y g v;new w a;new w b;load x w f;load k w g;load l m f;load n v f;");
        s.due("two objects' fields", x.pointsTo(5), 4 + 8);
        s.due("another field", x.pointsTo(6), 8);
        s.due("of no object", x.pointsTo(7), 0);
        s.due("of an empty field", x.pointsTo(9), 0);
        PointsToSolver list = Texts.solve("new x a;new y b;store x f y;new z c;store y f z;"
            + "load x x f;");
        s.due("into its own variable", list.pointsTo(0), 7);
        PointsToSolver all = Texts.solve(ALL_OBJECTS + "store x f x;load y x f;load z y f;"
            + "store y g y;store y h y;store y i y;");
        s.due("all objects", all.pointsTo(2), 1023);
        s.due("all fields of all objects", all.factCount(), 30 + 4 * 100);
    }

    private void stores() {
        s.description("17", "store x f y: for each object o in the set of x, adds the set of y to the"
            + " set of field f of o.");
        PointsToSolver x = Texts.solve("new x a;new x b;new y c;new y d;store x f y;load z z g;"
            + "store z f y;store x g z;");
        s.due("a.f", x.pointsTo(100), 12);
        s.due("b.f", x.pointsTo(104), 12);
        s.due("c.f", x.pointsTo(108), 0);
        s.due("a.g, of an empty set", x.pointsTo(101), 0);
        s.due("facts", x.factCount(), 8);
        PointsToSolver last = Texts.solve(ALL_OBJECTS + "load y y k;load y y l;load y y m;store x n x;");
        s.due("the last field of the last object", last.pointsTo(139), 1023);
        s.due("the field before it", last.pointsTo(138), 0);
    }

    private void calls() {
        s.description("17", "call x y z: for each function o in the set of y, with parameter p and"
            + " result r, adds the set of z to the set of p and the set of r to the set of x.");
        PointsToSolver x = Texts.solve("new y f;new y g;new y n;new z o;call x y z;fun f p r;"
            + "fun g q t;new r u;new t v;fun h w w;");
        s.due("p", x.pointsTo(3), 8);
        s.due("q", x.pointsTo(5), 8);
        s.due("x", x.pointsTo(2), 16 + 32);
        s.due("the parameter of a function that is not called", x.pointsTo(7), 0);
        PointsToSolver none = Texts.solve("new y n;new z o;call x y z;call x w z;fun f p r;new r n;");
        s.due("of no function: p", none.pointsTo(4), 0);
        s.due("of no function: x", none.pointsTo(2), 0);
        PointsToSolver empty = Texts.solve("new y f;call x y z;fun f p r;");
        s.due("of empty sets", empty.factCount(), 1);
        PointsToSolver same = Texts.solve("new y f;new z o;call x y z;fun f p p;");
        s.due("a parameter that is the result", same.pointsTo(3), 2);
        s.due("comes back", same.pointsTo(2), 2);
        PointsToSolver itself = Texts.solve("new x f;call x x x;fun f x x;");
        s.due("all one variable", itself.pointsTo(0), 1);
    }

    private void lastRound() {
        s.description("16", "Solving ends after the first round that adds no fact.");
        StringBuilder chain = new StringBuilder("new a o;");
        for (char name = 'b'; name <= 'p'; name++) {
            chain.append("copy ").append(name).append(' ').append((char) (name - 1)).append(';');
        }
        PointsToSolver copies = Texts.solve(chain.toString());
        s.due("the last of sixteen variables", copies.roundOf(15, 0), 16);
        s.due("rounds of sixteen variables", copies.roundCount(), 16);
        PointsToSolver list = Texts.solve(linkedList());
        s.due("the list's last object", list.roundOf(0, 9), 11);
        s.due("rounds of the list", list.roundCount(), 11);
        s.due("the list's objects", list.pointsTo(0), 1023);

        s.description("16",
            "The number of rounds is the number of rounds that added at least one fact.");
        s.due("of nothing", new PointsToSolver().roundCount(), 0);
        s.due("of no new", Texts.solve("copy x y;copy y x;").roundCount(), 0);
        s.due("of a new", Texts.solve("new x o;").roundCount(), 1);
        s.due("of a new and a copy that adds nothing", Texts.solve("new x o;copy x x;").roundCount(), 1);
        s.due("of a new and a copy", Texts.solve("new x o;copy y x;").roundCount(), 2);

        s.description("17", "The sets at the end are the solution.");
        s.due("p", copies.pointsTo(15), 1);
    }

    /** Variable x walks down a list of ten objects by its field f, an object a round. */
    private static String linkedList() {
        StringBuilder text = new StringBuilder("new x a;load x x f;");
        for (char name = 'a'; name <= 'j'; name++) {
            text.append("new v").append(name).append(' ').append(name).append(';');
        }
        for (char name = 'a'; name < 'j'; name++) {
            text.append("store v").append(name).append(" f v").append((char) (name + 1)).append(';');
        }
        return text.toString();
    }

    private void enabledNow() {
        s.description("15 to 45",
            "All queries below refer to the solution for the constraints that are enabled now.");
        PointsToSolver x = Texts.solve("new x o;copy y x;");
        s.due("at first", x.pointsTo(1), 1);
        x.setEnabled(1, false);
        s.due("with the copy disabled", x.pointsTo(1), 0);
        s.due("its edge", x.edgeCount(), 0);
        s.due("the dump's length", x.dumpLength(), 4);
        x.undo();
        s.due("undone", x.pointsTo(1), 1);
        s.due("its edge", x.edgeCount(), 1);
        s.due("the dump's length", x.dumpLength(), 8);
        x.saveSnapshot(0);
        x.setEnabled(0, false);
        s.due("with the new disabled", x.pointsTo(1), 0);
        s.due("its edge", x.edgeCount(), 1);
        s.due("the dump's length", x.dumpLength(), 0);
        x.restoreSnapshot(0);
        s.due("restored", x.roundOf(1, 0), 2);
        s.due("the dump's length", x.dumpLength(), 8);
        x.addConstraint(NEW, 1, 0, ABSENT);
        s.due("with a new added", x.roundOf(1, 0), 1);
        x.addConstraint(COPY, 0, 1, ABSENT);
        s.due("its edge", x.hasEdge(1, 0), 1);
        s.due("its component", x.componentSize(0), 2);
        Texts.parse(x, "copy y x;copy z y;");
        s.due("another program", x.factCount(), 0);
        s.due("its edges", x.edgeCount(), 2);
        s.due("its components", x.condensedNodeCount(), 3);
    }

    private void bitSets() {
        s.description("9, 10, 17 to 20, 27, 28, 37 to 39 and 41",
            "Sets of objects, variables and constraints are returned as bit sets: bit k stands for"
            + " number k.");
        PointsToSolver objects = Texts.solve(ALL_OBJECTS);
        for (int object = 0; object < 10; object++) {
            objects.setEnabled(object, false);
            s.due("pointsTo(0) without object " + object, objects.pointsTo(0), 1023 - (1 << object));
            objects.undo();
        }
        for (int variable = 0; variable < 16; variable++) {
            PointsToSolver variables = Bounds.ofSize(16, 1, 0);
            variables.addConstraint(NEW, variable, 0, ABSENT);
            s.due("pointersTo(0) with variable " + variable, variables.pointersTo(0),
                1 | 1 << variable);
        }
        PointsToSolver constraints = Texts.solve("copy x x;".repeat(30));
        for (int constraint = 0; constraint < 30; constraint++) {
            constraints.setEnabled(constraint, false);
            s.due("enabled without " + constraint, constraints.enabledConstraints(),
                0x3fffffff - (1 << constraint));
            constraints.undo();
        }
    }

    private void promises15And16() {
        s.promise(15, "Returns the number of facts.");
        s.due("of nothing", new PointsToSolver().factCount(), 0);
        s.due("of no new", Texts.solve("copy x y;").factCount(), 0);
        s.due("of one fact told twice", Texts.solve("new x o;new x o;copy x x;").factCount(), 1);
        PointsToSolver most = fullest();
        s.due("of all variables and all fields", most.factCount(), 16 * 10 + 40 * 10);

        s.promise(16, "Returns the number of rounds that added at least one fact.");
        s.due("of nothing", new PointsToSolver().roundCount(), 0);
        s.due("of a disabled new", disabledNew().roundCount(), 0);
        s.due("of a new", Texts.solve("new x o;").roundCount(), 1);
        s.due("of a load by an empty variable", Texts.solve("new x o;load x y f;").roundCount(), 1);
        s.due("of a store of a load", Texts.solve("new x o;store x f x;load y x f;").roundCount(), 3);
    }

    private static PointsToSolver disabledNew() {
        PointsToSolver x = Texts.solve("new x o;");
        x.setEnabled(0, false);
        return x;
    }

    /** Every variable and every field of every object holds all ten objects. */
    static PointsToSolver fullest() {
        StringBuilder text = new StringBuilder();
        for (char name = 'a'; name <= 'j'; name++) {
            text.append("fun ").append(name).append(' ').append(name).append(" k;");
            text.append("new a ").append(name).append(';');
        }
        for (char name = 'k'; name <= 'o'; name++) {
            text.append("copy ").append(name).append(" a;");
        }
        text.append("call p a a;store a a a;store a b a;store a c a;store a d a;");
        return Texts.solve(text.toString());
    }

    private void promise17() {
        s.promise(17, "Returns the bit set of the objects in its points-to set");
        PointsToSolver x = Texts.solve("new x o;new x p;copy y z;store x f x;");
        s.due("two objects", x.pointsTo(0), 3);
        s.due("none", x.pointsTo(1), 0);
        s.due("of a field", x.pointsTo(104), 3);
        PointsToSolver most = fullest();
        s.due("the last variable, full", most.pointsTo(15), 1023);
        s.due("the last field, full", most.pointsTo(139), 1023);

        s.promise(17, "INVALID if there is no such location.");
        Bounds.invalid(s, "pointsTo", Bounds.noLocations(3, 2, 1), x::pointsTo);
        Bounds.invalid(s, "pointsTo, of the fullest", Bounds.noLocations(16, 10, 4), most::pointsTo);
        Texts.parse(x, "new x o;");
        Bounds.invalid(s, "pointsTo, of a smaller program", Bounds.noLocations(1, 1, 0), x::pointsTo);
    }

    private void promise18() {
        s.promise(18,
            "Returns the bit set of the variables (not fields) whose sets contain the object");
        PointsToSolver x = Texts.solve("copy a b;new c o;new d p;store d f c;store c f c;fun q a a;");
        s.due("of o", x.pointersTo(0), 4);
        s.due("of p", x.pointersTo(1), 8);
        s.due("of an object that no variable holds", x.pointersTo(2), 0);
        PointsToSolver most = fullest();
        s.due("all variables", most.pointersTo(9), 65535);
        s.due("the last variable alone", lastVariable().pointersTo(1), 1 << 15);

        s.promise(18, "INVALID if there is no such object.");
        Bounds.invalid(s, "pointersTo", Bounds.outside(3), x::pointersTo);
        Bounds.invalid(s, "pointersTo, of ten", Bounds.outside(10), most::pointersTo);
        Bounds.invalid(s, "pointersTo, of none", Bounds.outside(0), new PointsToSolver()::pointersTo);
    }

    private static PointsToSolver lastVariable() {
        return Texts.solve(
            "call a b c;call d e f;call g h i;call j k l;call m n o;new a a;new p b;");
    }

    private void promise19() {
        s.promise(19, "`second`: a location, which may be the same");
        PointsToSolver x = Texts.solve("new x a;new x b;new y b;new y c;store x f y;copy z z;");
        s.due("of x and x", x.commonObjects(0, 0), 3);
        s.due("of a field and itself", x.commonObjects(100, 100), 6);
        s.due("of z and z, which is empty", x.commonObjects(2, 2), 0);

        s.promise(19, "Returns the bit set of the objects that are in both sets");
        s.due("of x and y", x.commonObjects(0, 1), 2);
        s.due("of y and a.f", x.commonObjects(1, 100), 6);
        s.due("of b.f and x", x.commonObjects(104, 0), 2);
        s.due("of x and c.f", x.commonObjects(0, 108), 0);
        s.due("of the fullest", fullest().commonObjects(139, 15), 1023);

        s.promise(19, "INVALID if one of the locations does not exist.");
        int[] none = Bounds.noLocations(3, 3, 1);
        PointsToSolver second = Texts.solve("new x a;new x b;new y b;new y c;store x f y;copy z z;");
        Bounds.invalid(s, "commonObjects, first", none, location -> x.commonObjects(location, 0));
        Bounds.invalid(s, "commonObjects, second", none, location -> second.commonObjects(0, location));
        s.due("both the same", x.commonObjects(3, 3), -1);
        s.due("both", x.commonObjects(-1, 101), -1);
        s.due("of nothing", new PointsToSolver().commonObjects(0, 0), -1);
    }

    private void promise20() {
        s.promise(20, "Finds the objects that can be reached from an object by following fields any"
            + " number of times, zero times included.");
        PointsToSolver list = Texts.solve(linkedList());
        s.due("nine times", list.reachableObjects(0), 1023);
        s.due("once", list.reachableObjects(8), 512 + 256);
        s.due("zero times", list.reachableObjects(9), 512);
        PointsToSolver fields = Texts.solve("new a a;new b b;new c c;new d d;new e e;store a f b;"
            + "store a g c;store a h d;store a i e;store e i d;");
        s.due("by any field", fields.reachableObjects(0), 31);
        s.due("by the last field", fields.reachableObjects(4), 24);
        s.due("variables are not followed", fields.reachableObjects(1), 2);

        s.promise(20, "Returns the bit set of the reachable objects, which contains the object itself");
        PointsToSolver x = Texts.solve("new x a;new y b;new z c;store x f y;store y f x;fun d x x;");
        s.due("in a cycle", x.reachableObjects(1), 3);
        s.due("alone", x.reachableObjects(2), 4);
        s.due("in no set", x.reachableObjects(3), 8);
        s.due("of the fullest", fullest().reachableObjects(9), 1023);
        s.due("without fields", Bounds.ofSize(1, 10, 0).reachableObjects(9), 512);

        s.promise(20, "INVALID if there is no such object.");
        Bounds.invalid(s, "reachableObjects", Bounds.outside(4), x::reachableObjects);
        Bounds.invalid(s, "reachableObjects, of ten", Bounds.outside(10), list::reachableObjects);
        Bounds.invalid(s, "reachableObjects, of none", Bounds.outside(0),
            new PointsToSolver()::reachableObjects);
    }
}
