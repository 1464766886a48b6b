/** Promises 21 to 28: rounds, derivations, explanations, proofs and necessary constraints. */
public final class DerivationsTest {
    private static final Checks CHECKS = new Checks();

    /** Variables p q r s, objects a b, field f; the facts: p a, q b, a.f b, r b, s b. */
    private static final String CHAIN =
        "new p a;new q b;store p f q;load r p f;copy s r;";

    /** Pairs of which the location or the object is not there in the chain. */
    private static final int[][] NO_PAIRS = {
        {4, 0}, {-1, 0}, {101, 0}, {108, 0}, {56, 0}, {0, 2}, {0, -1}, {0, 10}, {-1, -1},
        {Integer.MIN_VALUE, 0}, {Integer.MAX_VALUE, 1}, {0, Integer.MIN_VALUE},
        {0, Integer.MAX_VALUE}, {0, 32},
    };

    public static void main(String[] args) {
        promise21RoundOf();
        promise22DerivationCount();
        promise23ExplanationLength();
        promises24To26Steps();
        promises24To26WrongInputs();
        primaryIsOfTheFactsRound();
        primaryHasTheLowestConstraint();
        primaryHasTheLowestVia();
        primaryHasTheArgumentFirst();
        promise27Proof();
        promise28NecessaryConstraints();
        noPairs();
        everyFact();
        CHECKS.end();
    }

    private static void due(String call, long got, long want) {
        CHECKS.due(call, got, want);
    }

    private static void primary(String why, PointsToSolver x, int location, int object,
            int constraint, int source, int via) {
        due(why + ": constraint", x.explanationConstraint(location, object, 0), constraint);
        due(why + ": source", x.explanationSource(location, object, 0), source);
        due(why + ": via", x.explanationVia(location, object, 0), via);
    }

    private static void promise21RoundOf() {
        PointsToSolver x = Texts.solve(CHAIN);
        due("21 p a", x.roundOf(0, 0), 1);
        due("21 q b", x.roundOf(1, 1), 1);
        due("21 a.f b", x.roundOf(100, 1), 2);
        due("21 r b", x.roundOf(2, 1), 3);
        due("21 s b", x.roundOf(3, 1), 4);
        due("21 no fact", x.roundOf(0, 1), -2);
        due("21 no fact of a field", x.roundOf(104, 0), -2);
        x.setEnabled(4, false);
        due("21 a fact that was", x.roundOf(3, 1), -2);
        x.addConstraint(PointsToSolver.NEW, 3, 1, -2);
        due("21 a fact that came sooner", x.roundOf(3, 1), 1);
    }

    private static void promise22DerivationCount() {
        PointsToSolver x = Texts.solve(CHAIN);
        due("22 p a", x.derivationCount(0, 0), 1);
        due("22 s b", x.derivationCount(3, 1), 1);
        due("22 no fact", x.derivationCount(0, 1), 0);
        PointsToSolver twice = Texts.solve("new x o;new x o;copy x x;copy x y;copy y x;");
        due("22 two news, a copy of itself and one that came later",
            twice.derivationCount(0, 0), 4);
        twice.setEnabled(1, false);
        due("22 without a disabled one", twice.derivationCount(0, 0), 3);
        PointsToSolver vias = Texts.solve(
            "new x a;new x b;new q o;store x f q;load y x f;load y x f;");
        due("22 two loads of two vias each", vias.derivationCount(2, 2), 4);
        due("22 a store", vias.derivationCount(104, 2), 1);
        PointsToSolver call = Texts.solve("new y f;new z o;call x y z;fun f x z;");
        due("22 by argument and by result from one source", call.derivationCount(2, 1), 2);
        PointsToSolver calls = Texts.solve(
            "new y f;new y g;new z o;call x y z;fun f p r;fun g p s;new r o;new s o;");
        due("22 one parameter of two functions", calls.derivationCount(3, 2), 2);
        due("22 two results", calls.derivationCount(2, 2), 2);
    }

    private static void promise23ExplanationLength() {
        PointsToSolver x = Texts.solve(CHAIN);
        due("23 p a", x.explanationLength(0, 0), 1);
        due("23 a.f b", x.explanationLength(100, 1), 2);
        due("23 s b", x.explanationLength(3, 1), 4);
        due("23 no fact", x.explanationLength(3, 0), -2);
        PointsToSolver late = Texts.solve("new a o;copy b a;copy c b;store c f d;new d n;");
        due("23 a late via makes the round late", late.roundOf(100, 1), 4);
        due("23 but not the explanation long", late.explanationLength(100, 1), 2);
    }

    private static void promises24To26Steps() {
        PointsToSolver x = Texts.solve(CHAIN);
        int[] constraints = {4, 3, 2, 1};
        int[] sources = {2, 100, 1, -2};
        int[] vias = {-2, 0, 0, -2};
        for (int step = 0; step < 4; step++) {
            due("24 step " + step, x.explanationConstraint(3, 1, step), constraints[step]);
            due("25 step " + step, x.explanationSource(3, 1, step), sources[step]);
            due("26 step " + step, x.explanationVia(3, 1, step), vias[step]);
        }
        PointsToSolver y = Texts.solve("fun f p r;new x f;copy r p;call z x x;copy w z;");
        due("24 a call's result", y.explanationConstraint(4, 0, 1), 2);
        due("25 a call's result", y.explanationSource(4, 0, 1), 1);
        due("26 a call's result", y.explanationVia(4, 0, 1), 0);
        due("24 behind it", y.explanationConstraint(4, 0, 2), 1);
        due("25 a call's argument", y.explanationSource(4, 0, 3), 2);
        due("26 a call's argument", y.explanationVia(4, 0, 3), 0);
        due("24 the last step", y.explanationConstraint(4, 0, 4), 0);
        due("24 past it", y.explanationConstraint(4, 0, 5), -2);
    }

    private static void promises24To26WrongInputs() {
        PointsToSolver x = Texts.solve(CHAIN);
        for (int step : new int[] {4, 5, 100, Integer.MAX_VALUE}) {
            due("24 no such step", x.explanationConstraint(3, 1, step), -2);
            due("25 no such step", x.explanationSource(3, 1, step), -2);
            due("26 no such step", x.explanationVia(3, 1, step), -2);
        }
        for (int step : new int[] {-1, -2, Integer.MIN_VALUE}) {
            due("24 a negative step", x.explanationConstraint(3, 1, step), -1);
            due("25 a negative step", x.explanationSource(3, 1, step), -1);
            due("26 a negative step", x.explanationVia(3, 1, step), -1);
            due("24 a negative step of no fact", x.explanationConstraint(3, 0, step), -1);
            due("25 a negative step of no fact", x.explanationSource(3, 0, step), -1);
            due("26 a negative step of no fact", x.explanationVia(3, 0, step), -1);
        }
        due("24 no fact", x.explanationConstraint(3, 0, 0), -2);
        due("25 no fact", x.explanationSource(3, 0, 0), -2);
        due("26 no fact", x.explanationVia(3, 0, 0), -2);
    }

    private static void primaryIsOfTheFactsRound() {
        PointsToSolver copies = Texts.solve("copy y x;copy x z;copy y z;new z o;");
        primary("a lower constraint that comes later", copies, 0, 0, 2, 2, -2);
        due("22 counts both", copies.derivationCount(0, 0), 2);
        PointsToSolver vias = Texts.solve("new x a;new x b;new u b;new q o;store u f q;"
            + "copy w q;new t a;store t f w;load y x f;");
        primary("a lower via whose field comes later", vias, 5, 2, 8, 104, 1);
        PointsToSolver supply = Texts.solve("new c a;copy x c;new x b;new v a;new v b;new q o;"
            + "store v f q;copy d x;load y d f;");
        primary("a lower via that comes later", supply, 5, 2, 8, 104, 1);
        PointsToSolver call = Texts.solve("new y f;copy z u;new u o;new r o;call x y z;fun f x r;");
        primary("an argument that comes later", call, 4, 1, 4, 3, 0);
    }

    private static void primaryHasTheLowestConstraint() {
        PointsToSolver copies = Texts.solve("copy y z;copy y x;new z o;new x o;");
        primary("two copies", copies, 0, 0, 0, 1, -2);
        PointsToSolver news = Texts.solve("copy x x;new x o;new x o;");
        primary("two news", news, 0, 0, 1, -2, -2);
        PointsToSolver mixed = Texts.solve(
            "new x b;new x a;new q o;store x f q;copy m q;copy n m;load y x f;copy y n;");
        due("a load and a copy in one round", mixed.roundOf(4, 2), 3);
        primary("a load before a copy, though not in the text", mixed, 4, 2, 6, 100, 0);
        mixed.setEnabled(6, false);
        primary("the copy when the load is disabled", mixed, 4, 2, 7, 3, -2);
    }

    private static void primaryHasTheLowestVia() {
        PointsToSolver loads = Texts.solve("new x a;new x b;new q o;store x f q;load y x f;");
        primary("a load of two vias", loads, 2, 2, 4, 100, 0);
        primary("a store of the second via", loads, 104, 2, 3, 1, 1);
        PointsToSolver calls = Texts.solve(
            "new y f;new y g;new z o;new r o;call x y z;fun f p r;fun g x q;");
        primary("a result of a lower via before an argument", calls, 3, 2, 4, 2, 0);
    }

    private static void primaryHasTheArgumentFirst() {
        PointsToSolver call = Texts.solve("new y f;new r o;new z o;call x y z;fun f x r;");
        primary("the argument before the result", call, 3, 1, 3, 2, 0);
    }

    private static void promise27Proof() {
        PointsToSolver x = Texts.solve(CHAIN);
        due("27 p a", x.proof(0, 0), 1);
        due("27 a.f b, by a store", x.proof(100, 1), 7);
        due("27 r b, by a load", x.proof(2, 1), 15);
        due("27 s b", x.proof(3, 1), 31);
        due("27 no fact", x.proof(0, 1), 0);
        PointsToSolver call = Texts.solve("fun f p r;new x f;new r n;call z x x;");
        due("27 by a call's result", call.proof(3, 1), 7);
        due("27 by a call's argument", call.proof(0, 0), 5);
        PointsToSolver via = Texts.solve("new a o;copy x a;new y n;store x f y;");
        due("27 with the via's own proof", via.proof(100, 1), 15);
        PointsToSolver either = Texts.solve("copy y z;copy y x;new z o;new x o;");
        due("27 of the primary derivation alone", either.proof(0, 0), 5);
    }

    private static void promise28NecessaryConstraints() {
        PointsToSolver x = Texts.solve(CHAIN);
        due("28 s b", x.necessaryConstraints(3, 1), 31);
        due("28 q b", x.necessaryConstraints(1, 1), 2);
        due("28 no fact", x.necessaryConstraints(1, 0), 0);
        PointsToSolver either = Texts.solve("copy y z;copy y x;new z o;new x o;");
        due("28 two ways", either.necessaryConstraints(0, 0), 0);
        either.setEnabled(1, false);
        due("28 one way left", either.necessaryConstraints(0, 0), 5);
        PointsToSolver cycle = Texts.solve("new x o;copy y x;copy x y;");
        due("28 x in a cycle", cycle.necessaryConstraints(0, 0), 1);
        due("28 y in a cycle", cycle.necessaryConstraints(1, 0), 3);
        PointsToSolver twoVias = Texts.solve("new x a;new x b;new q o;store x f q;load y x f;");
        due("28 either via will do", twoVias.necessaryConstraints(2, 2), 4 + 8 + 16);
        StringBuilder many = new StringBuilder("new a o;copy b a;");
        for (int more = 2; more < 29; more++) {
            many.append("copy a b;");
        }
        PointsToSolver thirty = Texts.solve(many + "copy c b;");
        due("28 with thirty constraints", thirty.necessaryConstraints(2, 0), 3 + (1 << 29));
    }

    private static void noPairs() {
        PointsToSolver x = Texts.solve(CHAIN);
        for (int[] pair : NO_PAIRS) {
            int location = pair[0];
            int object = pair[1];
            String at = " of " + location + ", " + object;
            due("21" + at, x.roundOf(location, object), -1);
            due("22" + at, x.derivationCount(location, object), -1);
            due("23" + at, x.explanationLength(location, object), -1);
            due("24" + at, x.explanationConstraint(location, object, 0), -1);
            due("25" + at, x.explanationSource(location, object, 0), -1);
            due("26" + at, x.explanationVia(location, object, 0), -1);
            due("24" + at + ", step -1", x.explanationConstraint(location, object, -1), -1);
            due("27" + at, x.proof(location, object), -1);
            due("28" + at, x.necessaryConstraints(location, object), -1);
        }
    }

    /**
     * All 560 facts that there can be: variable a gets each object, each variable behind it those
     * of the one before, and field f of each object those of variable f as soon as p has them.
     */
    private static void everyFact() {
        StringBuilder text = new StringBuilder();
        for (char name = 'a'; name <= 'j'; name++) {
            text.append("new a ").append(name).append(';');
        }
        for (char name = 'b'; name <= 'p'; name++) {
            text.append("copy ").append(name).append(' ').append((char) (name - 1)).append(';');
        }
        for (char name = 'a'; name <= 'd'; name++) {
            text.append("store p ").append(name).append(' ').append(name).append(';');
        }
        PointsToSolver whole = Texts.solve(text.toString());
        due("15 every fact", whole.factCount(), 560);
        due("16 with every fact", whole.roundCount(), 17);
        for (int variable = 0; variable < 16; variable++) {
            factsOfVariable(Texts.solve(text.toString()), variable);
        }
        for (int owner = 0; owner < 10; owner++) {
            for (int field = 0; field < 4; field++) {
                factsOfField(Texts.solve(text.toString()), owner, field);
            }
        }
    }

    private static void factsOfVariable(PointsToSolver x, int variable) {
        int copies = (1 << variable) - 1 << 10;
        for (int object = 0; object < 10; object++) {
            String fact = " of variable " + variable + ", object " + object;
            due("21" + fact, x.roundOf(variable, object), variable + 1);
            due("22" + fact, x.derivationCount(variable, object), 1);
            due("23" + fact, x.explanationLength(variable, object), variable + 1);
            primary("24 to 26" + fact, x, variable, object,
                variable == 0 ? object : 9 + variable, variable == 0 ? -2 : variable - 1, -2);
            due("27" + fact, x.proof(variable, object), copies | 1 << object);
            due("28" + fact, x.necessaryConstraints(variable, object), copies | 1 << object);
        }
    }

    private static void factsOfField(PointsToSolver x, int owner, int field) {
        int location = 100 + 4 * owner + field;
        int copies = (1 << 15) - 1 << 10;
        for (int object = 0; object < 10; object++) {
            String fact = " of field " + field + " of object " + owner + ", object " + object;
            int proof = 1 << 25 + field | copies | 1 << owner | 1 << object;
            due("21" + fact, x.roundOf(location, object), 17);
            due("22" + fact, x.derivationCount(location, object), 1);
            due("23" + fact, x.explanationLength(location, object), field + 2);
            primary("24 to 26" + fact, x, location, object, 25 + field, field, owner);
            due("27" + fact, x.proof(location, object), proof);
            due("28" + fact, x.necessaryConstraints(location, object), proof);
        }
    }
}
