/** The sentences on COPY EDGES and in promises 29 to 36. */
final class BoundsOfEdges {
    private static final int ABSENT = PointsToSolver.ABSENT;

    /** b a c d e f g; the components are b a c, d e, f and g; no set holds anything. */
    private static final String CYCLES = "copy b a;copy c b;copy a c;copy d c;copy e d;copy d e;"
        + "copy f a;copy f c;load g f h;";

    private final Sentences s;

    BoundsOfEdges(Sentences s) {
        this.s = s;
    }

    void check() {
        copyEdges();
        loadAndStoreEdges();
        callEdges();
        edgesOnce();
        components();
        promise29();
        promise30();
        promise31();
        promise32();
        promise33();
        promise34();
        promise35();
        promise36();
    }

    /** Variable x copies from and into all forty fields; the other fifteen are copied into it. */
    private static PointsToSolver oneComponent() {
        StringBuilder text = new StringBuilder();
        for (char name = 'a'; name <= 'j'; name++) {
            text.append("new x ").append(name).append(';');
        }
        for (char field = 'a'; field <= 'd'; field++) {
            text.append("store x ").append(field).append(" x;load x x ").append(field).append(';');
        }
        text.append("call x x a;call x x b;call x x c;call x x d;call x x e;call x x f;call x x g;"
            + "call x x h;call x x i;call x x j;fun a x k;fun b x l;fun c x m;fun d x n;fun e x o;");
        return Texts.solve(text.toString());
    }

    private void copyEdges() {
        s.description("29 and 30", "There is an edge from location s to another location t if an"
            + " enabled constraint copies the whole set of s into t in the solution: copy x y gives an"
            + " edge from y to x");
        PointsToSolver x = Texts.solve("copy x y;new z o;");
        s.due("from y to x", x.hasEdge(1, 0), 1);
        s.due("from x to y", x.hasEdge(0, 1), 0);
        s.due("to z, by a new", x.hasEdge(1, 2), 0);
        s.due("edges", x.edgeCount(), 1);
        x.setEnabled(0, false);
        s.due("of a disabled copy", x.hasEdge(1, 0), 0);
        s.due("edges of a disabled copy", x.edgeCount(), 0);
    }

    private void loadAndStoreEdges() {
        s.description("29 and 30",
            "load gives an edge from field f of o to x for each object o in the set of y");
        PointsToSolver load = Texts.solve("new y a;new y b;new z c;load x y f;load x w g;load z z f;");
        s.due("a.f to x", load.hasEdge(100, 2), 1);
        s.due("b.f to x", load.hasEdge(104, 2), 1);
        s.due("c.f to x", load.hasEdge(108, 2), 0);
        s.due("a.g to x", load.hasEdge(101, 2), 0);
        s.due("c.f to z", load.hasEdge(108, 1), 1);
        s.due("x to a.f", load.hasEdge(2, 100), 0);
        s.due("edges", load.edgeCount(), 3);
        load.setEnabled(3, false);
        s.due("edges of a disabled load", load.edgeCount(), 1);
        load.undo();
        load.setEnabled(1, false);
        s.due("edges with fewer objects", load.edgeCount(), 2);

        s.description("29 and 30",
            "store gives an edge from y to field f of o for each object o in the set of x");
        PointsToSolver store = Texts.solve("new x a;new x b;new y c;store x g y;store w f y;");
        s.due("y to a.g", store.hasEdge(1, 100), 1);
        s.due("y to b.g", store.hasEdge(1, 104), 1);
        s.due("y to c.g", store.hasEdge(1, 108), 0);
        s.due("y to a.f", store.hasEdge(1, 101), 0);
        s.due("x to a.g", store.hasEdge(0, 100), 0);
        s.due("a.g to y", store.hasEdge(100, 1), 0);
        s.due("edges", store.edgeCount(), 2);
    }

    private void callEdges() {
        s.description("29 and 30",
            "call gives an edge from z to p and an edge from r to x for each function in the set of y.");
        PointsToSolver x = Texts.solve("new y f;new y n;call x y z;fun f p r;fun g q t;");
        s.due("z to p", x.hasEdge(2, 3), 1);
        s.due("r to x", x.hasEdge(4, 1), 1);
        s.due("z to q, of a function not called", x.hasEdge(2, 5), 0);
        s.due("t to x, of a function not called", x.hasEdge(6, 1), 0);
        s.due("z to x", x.hasEdge(2, 1), 0);
        s.due("y to x", x.hasEdge(0, 1), 0);
        s.due("p to r", x.hasEdge(3, 4), 0);
        s.due("edges", x.edgeCount(), 2);
        x.addConstraint(PointsToSolver.NEW, 0, 2, ABSENT);
        s.due("edges of two functions", x.edgeCount(), 4);
        x.setEnabled(2, false);
        s.due("edges of a disabled call", x.edgeCount(), 0);
    }

    private void edgesOnce() {
        s.description("29 and 30", "Edges from a location to itself are left out, and each pair of"
            + " locations has at most one edge in each direction.");
        s.due("copy x x", Texts.solve("copy x x;").edgeCount(), 0);
        s.due("a call of one variable", Texts.solve("new x f;call x x x;fun f x x;").edgeCount(), 0);
        s.due("copy x y twice", Texts.solve("copy x y;copy x y;").edgeCount(), 1);
        s.due("both directions", Texts.solve("copy x y;copy y x;").edgeCount(), 2);
        s.due("a load twice", Texts.solve("new y a;load x y f;load x y f;").edgeCount(), 1);
        s.due("a call and a copy", Texts.solve("new y f;call x y z;copy p z;fun f p p;copy x p;")
            .edgeCount(), 2);
        s.due("two functions of one parameter and result",
            Texts.solve("new y f;new y g;call x y z;fun f p r;fun g p r;").edgeCount(), 2);
    }

    private void components() {
        s.description("32 to 36", "The component of a location is its strongly connected component in"
            + " the graph of all locations and edges.");
        PointsToSolver x = Texts.solve("new x a;store x f y;load y x f;copy z y;copy w z;copy y w;");
        s.due("of x", x.componentSize(0), 1);
        s.due("of a.f", x.componentSize(100), 4);
        s.due("of w", x.componentSize(3), 4);
        s.due("one way alone", Texts.solve("copy b a;copy c a;copy c b;").componentSize(0), 1);
        s.due("no edge", Texts.solve("new b a;").componentSize(0), 1);

        s.description("34", "A component is cyclic if it has at least two locations.");
        s.due("one location with a copy of itself", Texts.solve("copy x x;").cyclicComponentCount(), 0);
        s.due("two locations", Texts.solve("copy x y;copy y x;").cyclicComponentCount(), 1);
        s.due("three locations",
            Texts.solve("copy x y;copy y z;copy z x;").cyclicComponentCount(), 1);
        s.due("two locations in a row", Texts.solve("copy x y;").cyclicComponentCount(), 0);
    }

    private void promise29() {
        s.promise(29, "Returns the number of edges.");
        s.due("of nothing", new PointsToSolver().edgeCount(), 0);
        s.due("of no copy", Texts.solve("new x o;load y z f;store y f z;call y z z;").edgeCount(), 0);
        s.due("of the cycles", Texts.solve(CYCLES).edgeCount(), 8);
        PointsToSolver fields = Bounds.ofSize(16, 10, 4);
        s.due("from forty fields", fields.edgeCount(), 40);
        PointsToSolver most = Texts.solve(
            "new a a;new a b;new a c;new a d;new a e;new a f;new a g;new a h;new a i;new a j;"
            + "load a a a;load a a b;load a a c;load a a d;"
            + "store a a a;store a b a;store a c a;store a d a;");
        s.due("from and to forty fields", most.edgeCount(), 80);
        most.addConstraint(PointsToSolver.LOAD, 0, 0, 3);
        s.due("and once more", most.edgeCount(), 80);
    }

    private void promise30() {
        s.promise(30, "Returns 1 if there is an edge from the one to the other, else 0");
        PointsToSolver x = Texts.solve("copy a b;new c o;store c f a;load b c f;");
        s.due("b to a", x.hasEdge(1, 0), 1);
        s.due("a to b, though there is a path", x.hasEdge(0, 1), 0);
        s.due("a to o.f", x.hasEdge(0, 100), 1);
        s.due("o.f to b", x.hasEdge(100, 1), 1);
        s.due("o.f to a", x.hasEdge(100, 0), 0);
        PointsToSolver fields = Bounds.ofSize(16, 10, 4);
        s.due("the last field to the first variable", fields.hasEdge(139, 0), 1);
        s.due("the last field to the last variable", fields.hasEdge(139, 15), 0);
        fields.setEnabled(29, false);
        s.due("without its load", fields.hasEdge(139, 0), 0);

        s.promise(30, "INVALID if one of the locations does not exist or both are the same.");
        int[] none = Bounds.noLocations(3, 1, 1);
        Bounds.invalid(s, "hasEdge from", none, location -> x.hasEdge(location, 0));
        PointsToSolver to = Texts.solve("copy a b;new c o;store c f a;load b c f;");
        Bounds.invalid(s, "hasEdge to", none, location -> to.hasEdge(0, location));
        Bounds.invalid(s, "hasEdge from and to", none, location -> to.hasEdge(location, location));
        for (int location : new int[] {0, 1, 2, 100}) {
            s.due("of the same " + location, x.hasEdge(location, location), -1);
        }
        s.due("of the same, with a copy of itself", Texts.solve("copy a a;").hasEdge(0, 0), -1);
        s.due("of nothing", new PointsToSolver().hasEdge(0, 1), -1);
    }

    private void promise31() {
        s.promise(31, "Returns the number of edges on a shortest path, 0 if both are the same");
        PointsToSolver x = Texts.solve(CYCLES);
        s.due("a to b", x.distance(1, 0), 1);
        s.due("b to a", x.distance(0, 1), 2);
        s.due("a to e", x.distance(1, 4), 4);
        s.due("a to f", x.distance(1, 5), 1);
        for (int location = 0; location < 7; location++) {
            s.due("of the same " + location, x.distance(location, location), 0);
        }
        StringBuilder chain = new StringBuilder();
        for (char name = 'b'; name <= 'p'; name++) {
            chain.append("copy ").append((char) (name - 1)).append(' ').append(name).append(';');
        }
        PointsToSolver sixteen = Texts.solve(chain.toString());
        s.due("p to a", sixteen.distance(15, 0), 15);
        s.due("o to a", sixteen.distance(14, 0), 14);
        PointsToSolver longest = Texts.solve(longestPath());
        s.due("the first variable to the last", longest.distance(0, 15), 25);
        s.due("the first variable to the last field", longest.distance(0, 111), 23);
        s.due("the first field to the last variable", longest.distance(100, 15), 24);
        s.due("the first field to the last", longest.distance(100, 111), 22);
        s.due("the last field to the first", longest.distance(111, 100), ABSENT);
        s.due("a field to itself", longest.distance(100, 100), 0);

        s.promise(31, "INVALID if one of the locations does not exist");
        int[] none = Bounds.noLocations(2, 1, 1);
        PointsToSolver from = Texts.solve("new a o;load b a f;");
        Bounds.invalid(s, "distance from", none, location -> from.distance(location, 0));
        Bounds.invalid(s, "distance from and to", none, location -> from.distance(location, location));
        PointsToSolver to = Texts.solve("new a o;load b a f;");
        Bounds.invalid(s, "distance to", none, location -> to.distance(100, location));
        s.due("of nothing", new PointsToSolver().distance(0, 0), -1);

        s.promise(31, "ABSENT if there is no path.");
        s.due("e to a", x.distance(4, 1), ABSENT);
        s.due("b to g", x.distance(0, 6), ABSENT);
        s.due("a to p", sixteen.distance(0, 15), ABSENT);
        s.due("a variable to a field", from.distance(0, 100), ABSENT);
        s.due("of no edges", Texts.solve("new a o;new b o;").distance(0, 1), ABSENT);
    }

    /**
     * Copies va into vb, vb into vc and so on to vm, each time through a field of its own: the four
     * fields of oa, which va holds, then those of ob and oc, which wb and wc hold; at last vn
     * copies vm.
     */
    private static String longestPath() {
        StringBuilder text = new StringBuilder("new va oa;new wb ob;new wc oc;");
        String[] holders = {"va", "wb", "wc"};
        for (int step = 0; step < 12; step++) {
            String field = "f" + (char) ('a' + step % 4);
            String from = "v" + (char) ('a' + step);
            String to = "v" + (char) ('b' + step);
            String holder = holders[step / 4];
            text.append("store ").append(holder).append(' ').append(field).append(' ').append(from)
                .append(";load ").append(to).append(' ').append(holder).append(' ').append(field)
                .append(';');
        }
        return text + "copy vn vm;";
    }

    private void promise32() {
        s.promise(32, "Returns the number of locations in its component");
        PointsToSolver x = Texts.solve(CYCLES);
        int[] sizes = {3, 3, 3, 2, 2, 1, 1};
        for (int location = 0; location < 7; location++) {
            s.due("of " + location, x.componentSize(location), sizes[location]);
        }
        s.due("of x and forty fields", oneComponent().componentSize(139), 41);
        s.due("of x", oneComponent().componentSize(0), 41);

        s.promise(32, "INVALID if there is no such location.");
        Bounds.invalid(s, "componentSize", Bounds.noLocations(7, 0, 1), x::componentSize);
        Bounds.invalid(s, "componentSize, of nothing", Bounds.noLocations(0, 0, 0),
            new PointsToSolver()::componentSize);
        Bounds.invalid(s, "componentSize, of the largest", Bounds.noLocations(16, 10, 4),
            oneComponent()::componentSize);
    }

    private void promise33() {
        s.promise(33, "Returns the lowest location in its component");
        PointsToSolver x = Texts.solve(CYCLES);
        int[] lowest = {0, 0, 0, 3, 3, 5, 6};
        for (int location = 0; location < 7; location++) {
            s.due("of " + location, x.representative(location), lowest[location]);
        }
        s.due("of the last field, with a variable", oneComponent().representative(139), 0);
        s.due("of the last field alone", Bounds.ofSize(16, 10, 4).representative(139), 139);
        s.due("of the last variable alone", Bounds.ofSize(16, 10, 4).representative(15), 15);
        PointsToSolver later = Texts.solve("copy a a;new x p;store x f y;load y x f;");
        s.due("of a field with a later variable", later.representative(100), 2);

        s.promise(33, "INVALID if there is no such location.");
        Bounds.invalid(s, "representative", Bounds.noLocations(7, 0, 1), x::representative);
        Bounds.invalid(s, "representative, of nothing", Bounds.noLocations(0, 0, 0),
            new PointsToSolver()::representative);
        Bounds.invalid(s, "representative, of the largest", Bounds.noLocations(16, 10, 4),
            oneComponent()::representative);
    }

    private void promise34() {
        s.promise(34, "Returns the number of cyclic components.");
        s.due("of nothing", new PointsToSolver().cyclicComponentCount(), 0);
        s.due("of no cycle", Texts.solve("copy a b;copy b c;").cyclicComponentCount(), 0);
        s.due("of the cycles", Texts.solve(CYCLES).cyclicComponentCount(), 2);
        s.due("of the largest", oneComponent().cyclicComponentCount(), 1);
        StringBuilder pairs = new StringBuilder();
        for (char name = 'a'; name <= 'p'; name += 2) {
            char other = (char) (name + 1);
            pairs.append("copy ").append(name).append(' ').append(other).append(";copy ")
                .append(other).append(' ').append(name).append(';');
        }
        s.due("of eight pairs", Texts.solve(pairs.toString()).cyclicComponentCount(), 8);
    }

    private void promise35() {
        s.promise(35,
            "Returns the number of nodes of the condensed graph, that is the number of components.");
        s.due("of nothing", new PointsToSolver().condensedNodeCount(), 0);
        s.due("of one variable", Texts.solve("copy a a;").condensedNodeCount(), 1);
        s.due("of the cycles", Texts.solve(CYCLES).condensedNodeCount(), 4);
        for (int[] size : Bounds.SIZES) {
            s.due("of " + size[0] + ", " + size[1] + ", " + size[2],
                Bounds.ofSize(size[0], size[1], size[2]).condensedNodeCount(),
                size[0] + size[1] * size[2]);
        }
        s.due("of the largest", oneComponent().condensedNodeCount(), 16);
    }

    private void promise36() {
        s.promise(36, "Returns the number of edges of the condensed graph: ordered pairs of different"
            + " components with at least one edge from a location of the first to a location of the"
            + " second.");
        s.due("of nothing", new PointsToSolver().condensedEdgeCount(), 0);
        s.due("within one component", Texts.solve("copy a b;copy b a;").condensedEdgeCount(), 0);
        s.due("of the cycles", Texts.solve(CYCLES).condensedEdgeCount(), 2);
        s.due("of two edges between two components",
            Texts.solve("copy a b;copy b a;copy c d;copy d c;copy c a;copy d b;")
                .condensedEdgeCount(), 1);
        s.due("of a path and its short cut",
            Texts.solve("copy b a;copy c b;copy c a;").condensedEdgeCount(), 3);
        s.due("of forty fields", Bounds.ofSize(16, 10, 4).condensedEdgeCount(), 40);
        s.due("of ten arguments and five results into one component",
            oneComponent().condensedEdgeCount(), 10 + 5);
    }
}
