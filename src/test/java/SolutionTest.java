/** Promises 15 to 20: the solution. */
public final class SolutionTest {
    private static final Checks CHECKS = new Checks();

    /** Variables p q r s, objects a b, field f; the facts: p a, q b, a.f b, r b, s b. */
    private static final String CHAIN =
        "new p a;new q b;store p f q;load r p f;copy s r;";

    public static void main(String[] args) {
        promises15And16Counts();
        promise17PointsTo();
        promise17EachKind();
        promise17NoSuchLocation();
        promise18PointersTo();
        promise19CommonObjects();
        promise20ReachableObjects();
        CHECKS.end();
    }

    private static void due(String call, long got, long want) {
        CHECKS.due(call, got, want);
    }

    private static void promises15And16Counts() {
        PointsToSolver x = Texts.solve(CHAIN);
        due("15 facts of the chain", x.factCount(), 5);
        due("16 rounds of the chain", x.roundCount(), 4);
        x.setEnabled(4, false);
        due("15 without the copy", x.factCount(), 4);
        due("16 without the copy", x.roundCount(), 3);
        x.setEnabled(1, false);
        due("15 with one new", x.factCount(), 1);
        due("16 with one new", x.roundCount(), 1);
        x.setEnabled(0, false);
        due("15 with no new", x.factCount(), 0);
        due("16 with no new", x.roundCount(), 0);
        PointsToSolver y = Texts.solve("copy c b;copy b a;new a o;copy d a;");
        due("16 a round reads the sets of its beginning", y.roundCount(), 3);
        due("15 four variables", y.factCount(), 4);
        PointsToSolver z = Texts.solve("new a o;copy b a;copy c b;");
        due("16 nor do later constraints see it sooner", z.roundCount(), 3);
    }

    private static void promise17PointsTo() {
        PointsToSolver x = Texts.solve(CHAIN);
        due("17 p", x.pointsTo(0), 1);
        due("17 q", x.pointsTo(1), 2);
        due("17 r", x.pointsTo(2), 2);
        due("17 s", x.pointsTo(3), 2);
        due("17 a.f", x.pointsTo(100), 2);
        due("17 b.f", x.pointsTo(104), 0);
        PointsToSolver full = Texts.solve("new x a;new x b;new x c;new x d;new x e;new x f;"
            + "new x g;new x h;new x i;new x j;store x f x;load y x f;load y y g;load y y h;"
            + "load y y i;");
        due("17 ten objects", full.pointsTo(0), 1023);
        due("17 ten objects loaded", full.pointsTo(1), 1023);
        due("17 the last object's first field", full.pointsTo(136), 1023);
        due("17 the last location", full.pointsTo(139), 0);
        due("17 past the last location", full.pointsTo(140), -1);
    }

    private static void promise17EachKind() {
        PointsToSolver x = Texts.solve("fun f p r;new x f;new x n;new y n;call z x y;copy r p;");
        due("17 call: the parameter gets the argument", x.pointsTo(0), 2);
        due("17 call: x gets the result", x.pointsTo(4), 2);
        due("17 call: an object that is no function is left out", x.callTargets(3), 1);
        PointsToSolver late = Texts.solve("new x f;new y n;call z x y;fun f p p;");
        due("17 a fun counts for what stands before it", late.pointsTo(2), 2);
        PointsToSolver own = Texts.solve("new x f;call x x x;fun f p r;");
        due("17 a call that passes the function itself", own.pointsTo(1), 1);
        due("17 its result is empty", own.pointsTo(2), 0);
        PointsToSolver two = Texts.solve(
            "new x f;new x g;new y n;call z x y;fun f p r;fun g q s;new r u;new s v;");
        due("17 the first function's parameter", two.pointsTo(3), 4);
        due("17 the second function's parameter", two.pointsTo(5), 4);
        due("17 both results", two.pointsTo(2), 8 + 16);
        PointsToSolver loads = Texts.solve(
            "new x a;new x b;new y c;new z d;store x f y;store x g z;load u x g;load v x f;");
        due("17 fields are apart: g", loads.pointsTo(3), 8);
        due("17 fields are apart: f", loads.pointsTo(4), 4);
        due("17 the second object's g", loads.pointsTo(105), 8);
        PointsToSolver own2 = Texts.solve("new x a;store x f x;load x x f;copy x x;");
        due("17 a field that holds its own object", own2.pointsTo(100), 1);
        due("15 of it", own2.factCount(), 2);
    }

    private static void promise17NoSuchLocation() {
        PointsToSolver x = Texts.solve(CHAIN);
        for (int location : new int[] {4, 15, 16, 99, 101, 103, 105, 108, 139, 140, -1, 56,
                Integer.MIN_VALUE, Integer.MAX_VALUE}) {
            due("17 pointsTo(" + location + ")", x.pointsTo(location), -1);
        }
        PointsToSolver y = Texts.solve("new x a;");
        due("17 no field, no location", y.pointsTo(100), -1);
        PointsToSolver z = Texts.solve("load x y f;");
        due("17 no object, no location", z.pointsTo(100), -1);
        due("17 an empty variable", z.pointsTo(1), 0);
    }

    private static void promise18PointersTo() {
        PointsToSolver x = Texts.solve(CHAIN);
        due("18 a", x.pointersTo(0), 1);
        due("18 b: fields do not count", x.pointersTo(1), 2 + 4 + 8);
        PointsToSolver y = Texts.solve("new x a;fun b x y;");
        due("18 an object in no set", y.pointersTo(1), 0);
        for (int object : new int[] {2, 10, -1, Integer.MIN_VALUE, Integer.MAX_VALUE}) {
            due("18 pointersTo(" + object + ")", y.pointersTo(object), -1);
        }
    }

    private static void promise19CommonObjects() {
        PointsToSolver x = Texts.solve("new x a;new x b;new y b;new y c;store x f y;");
        due("19 x and y", x.commonObjects(0, 1), 2);
        due("19 y and a.f", x.commonObjects(1, 100), 6);
        due("19 x with itself", x.commonObjects(0, 0), 3);
        due("19 x and c.f", x.commonObjects(0, 108), 0);
        due("19 a wrong first", x.commonObjects(2, 0), -1);
        due("19 a wrong second", x.commonObjects(0, 101), -1);
        due("19 both wrong", x.commonObjects(-1, -1), -1);
    }

    private static void promise20ReachableObjects() {
        PointsToSolver x = Texts.solve("new a a;new b b;new c c;new d d;new e e;store a f b;"
            + "store b g c;store c f d;store d g b;");
        due("20 a by any field", x.reachableObjects(0), 15);
        due("20 b in a cycle", x.reachableObjects(1), 14);
        due("20 d in a cycle", x.reachableObjects(3), 14);
        due("20 e alone", x.reachableObjects(4), 16);
        x.setEnabled(6, false);
        due("20 a without b.g", x.reachableObjects(0), 3);
        for (int object : new int[] {5, -1, Integer.MIN_VALUE, Integer.MAX_VALUE}) {
            due("20 no object", x.reachableObjects(object), -1);
        }
        PointsToSolver chain = Texts.solve("new a a;new b b;new c c;new d d;new e e;new f f;"
            + "new g g;new h h;new i i;new j j;store j f i;store i f h;store h f g;store g f f;"
            + "store f f e;store e f d;store d f c;store c f b;store b f a;");
        due("20 the longest path", chain.reachableObjects(9), 1023);
        due("20 its end", chain.reachableObjects(0), 1);
    }
}
