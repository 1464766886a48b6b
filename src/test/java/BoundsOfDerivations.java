/** The sentences on DERIVATIONS and in promises 21 to 28. */
final class BoundsOfDerivations {
    private static final int NEW = PointsToSolver.NEW;
    private static final int ABSENT = PointsToSolver.ABSENT;

    /** Variables p q r s, objects a b, field f; the facts: p a, q b, a.f b, r b, s b. */
    private static final String CHAIN = "new p a;new q b;store p f q;load r p f;copy s r;";

    private final Sentences s;

    BoundsOfDerivations(Sentences s) {
        this.s = s;
    }

    void check() {
        derivations();
        sources();
        vias();
        roundsOfFacts();
        primaries();
        primariesAmongSeveral();
        explanations();
        proofs();
        promise21();
        promise22();
        promise23();
        promise24();
        promise25();
        promise26();
        promise27();
        promise28();
    }

    private static PointsToSolver chain() {
        return Texts.solve(CHAIN);
    }

    private void primary(PointsToSolver x, int location, int object, int constraint, int source,
            int via) {
        step(x, location, object, 0, constraint, source, via);
    }

    private void step(PointsToSolver x, int location, int object, int step, int... due) {
        String of = " of step " + step + " at " + location + ", " + object;
        s.due("constraint" + of, x.explanationConstraint(location, object, step), due[0]);
        s.due("source" + of, x.explanationSource(location, object, step), due[1]);
        s.due("via" + of, x.explanationVia(location, object, step), due[2]);
    }

    private void derivations() {
        s.description("22", "A derivation of a fact (l, o) is a triple of an enabled constraint, a"
            + " source location and a via object by which the constraint, applied to the solution,"
            + " adds o to the set of l.");
        PointsToSolver x = Texts.solve("new x o;new x o;copy x y;copy y x;new x p;");
        s.due("two news and a copy", x.derivationCount(0, 0), 3);
        s.due("a new of another object", x.derivationCount(0, 1), 2);
        s.due("the copy to y", x.derivationCount(1, 0), 1);
        x.setEnabled(0, false);
        s.due("without a disabled new", x.derivationCount(0, 0), 2);
        PointsToSolver fields = Texts.solve(
            "new x a;new x b;new y o;store x f y;load z x f;store x g y;");
        s.due("a load of two objects' field", fields.derivationCount(2, 2), 2);
        s.due("a store of one object's field", fields.derivationCount(104, 2), 1);
    }

    private void sources() {
        s.description("25 and 26", "For new there is no source and no via object.");
        PointsToSolver x = chain();
        primary(x, 0, 0, 0, ABSENT, ABSENT);
        s.description("25 and 26", "For copy the source is y and there is no via object.");
        primary(x, 3, 1, 4, 2, ABSENT);
        s.description("25 and 26", "For load the source is field f of the via object, which is an"
            + " object in the set of y.");
        primary(x, 2, 1, 3, 100, 0);
        PointsToSolver load = Texts.solve("load k k a;load k k b;load k k c;new x o;new y p;new y q;"
            + "store y d x;load z y d;new u p;new u q;load v u d;");
        primary(load, 3, 0, 7, 107, 1);
        load.setEnabled(4, false);
        primary(load, 3, 0, 7, 111, 2);
        s.description("25 and 26", "For store the source is y and the via object is in the set of x.");
        primary(x, 100, 1, 2, 1, 0);
        PointsToSolver store = Texts.solve("new x a;new x b;new y c;store x f y;");
        primary(store, 104, 2, 3, 1, 1);
        s.description("25 and 26", "For call the via object is a function in the set of y");
        PointsToSolver call = Texts.solve(
            "new y n;new y f;new y g;new z o;call x y z;fun f p r;fun g q t;new r n;new t f;");
        primary(call, 3, 3, 4, 1, 1);
        primary(call, 5, 3, 4, 1, 2);
        s.due("a function's parameter alone", call.derivationCount(3, 3), 1);
        s.description("25", "the source is z for the parameter, and the result variable for x.");
        primary(call, 3, 3, 4, 1, 1);
        primary(call, 2, 0, 4, 4, 1);
        primary(call, 2, 1, 4, 6, 2);
    }

    private void vias() {
        s.description("22 and 25", "In every derivation that has a source, o is in the set of the"
            + " source.");
        PointsToSolver x = Texts.solve("new x a;new x b;new y o;new z n;store x f y;load w x f;"
            + "copy w z;copy w e;");
        s.due("a load's, not the copies'", x.derivationCount(3, 2), 2);
        s.due("a copy's alone", x.derivationCount(3, 3), 1);
        PointsToSolver one = Texts.solve(
            "new x a;new v b;new x b;new y o;store v f y;load w x f;load w x g;");
        s.due("one of two vias", one.derivationCount(3, 2), 1);
        primary(one, 3, 2, 5, 104, 1);

        s.description("22", "A source may be the location l itself.");
        s.due("copy x x", Texts.solve("new x o;copy x x;").derivationCount(0, 0), 2);
        s.due("copy x x twice", Texts.solve("new x o;copy x x;copy x x;").derivationCount(0, 0), 3);
        PointsToSolver own = Texts.solve("new y f;new p o;call p y p;fun f p p;");
        s.due("a call's argument and result", own.derivationCount(1, 1), 3);
    }

    private void roundsOfFacts() {
        s.description("21", "The round of a fact is the round in which it was added.");
        PointsToSolver x = chain();
        s.due("r b", x.roundOf(2, 1), 3);
        PointsToSolver later = Texts.solve("new a o;copy b a;copy c b;copy c a;new c p;");
        s.due("the sooner of two ways", later.roundOf(2, 0), 2);
        s.due("another object of the set", later.roundOf(2, 1), 1);
    }

    private void primaries() {
        s.description("24 to 26", "The primary derivation of a fact is a derivation that was already"
            + " applicable at the beginning of that round: o was in the set of the source, and the via"
            + " object was in the set that supplies it.");
        PointsToSolver copies = Texts.solve("copy y x;copy x z;copy y z;new z o;");
        s.due("derivations", copies.derivationCount(0, 0), 2);
        primary(copies, 0, 0, 2, 2, ABSENT);
        PointsToSolver source = Texts.solve("new x a;new x b;new u b;new q o;store u f q;"
            + "copy w q;new t a;store t f w;load y x f;");
        s.due("derivations", source.derivationCount(5, 2), 2);
        primary(source, 5, 2, 8, 104, 1);
        PointsToSolver supply = Texts.solve("new c a;copy x c;new x b;new v a;new v b;new q o;"
            + "store v f q;copy d x;load y d f;");
        s.due("derivations", supply.derivationCount(5, 2), 2);
        primary(supply, 5, 2, 8, 104, 1);
        PointsToSolver store = Texts.solve("copy x w;store x f q;new w a;new v a;store v f q;new q o;");
        s.due("derivations", store.derivationCount(100, 1), 2);
        primary(store, 100, 1, 4, 2, 0);
        PointsToSolver argument = Texts.solve(
            "new y f;copy z u;new u o;new r o;call x y z;fun f x r;");
        s.due("derivations", argument.derivationCount(4, 1), 2);
        primary(argument, 4, 1, 4, 3, 0);
        PointsToSolver own = Texts.solve("copy x x;new x o;");
        primary(own, 0, 0, 1, ABSENT, ABSENT);
    }

    private void primariesAmongSeveral() {
        s.description("24 to 26",
            "If there are several, the primary derivation is the one with the lowest constraint"
            + " number");
        PointsToSolver copies = Texts.solve("copy y z;copy y x;new z o;new x o;");
        primary(copies, 0, 0, 0, 1, ABSENT);
        PointsToSolver vias = Texts.solve("new x b;new x a;new q o;store x f q;copy m q;copy n m;"
            + "new u b;load y u f;load y x f;copy y n;");
        primary(vias, 5, 2, 7, 100, 0);
        vias.setEnabled(7, false);
        primary(vias, 5, 2, 8, 100, 0);
        vias.setEnabled(8, false);
        primary(vias, 5, 2, 9, 3, ABSENT);
        PointsToSolver lowConstraintHighVia = Texts.solve(
            "new x a;new u b;new q o;store x f q;store u f q;load y u f;load y x f;");
        primary(lowConstraintHighVia, 3, 2, 5, 104, 1);
        PointsToSolver news = Texts.solve("copy x x;new x o;new x o;");
        primary(news, 0, 0, 1, ABSENT, ABSENT);

        s.description("26", "among these, the one with the lowest via object");
        PointsToSolver load = Texts.solve("new x b;new x a;new q o;store x f q;load y x f;fun b q q;");
        primary(load, 2, 2, 4, 100, 0);
        PointsToSolver ten = Texts.solve("new u j;new u i;new x a;new x b;new x c;new x d;new x e;"
            + "new x f;new x g;new x h;new x i;new x j;new q a;store u k q;store x l q;load y x l;"
            + "load z u k;");
        primary(ten, 3, 2, 15, 101, 0);
        primary(ten, 4, 2, 16, 100, 0);
        PointsToSolver calls = Texts.solve(
            "new y f;new y g;new z o;new r o;call x y z;fun f p r;fun g x q;");
        primary(calls, 3, 2, 4, 2, 0);

        s.description("25",
            "among these, the one whose source is the call's argument z comes before the one whose"
            + " source is the result.");
        PointsToSolver both = Texts.solve("new y f;new r o;new z o;call x y z;fun f x r;");
        s.due("derivations", both.derivationCount(3, 1), 2);
        primary(both, 3, 1, 3, 2, 0);
    }

    private void explanations() {
        s.description("23 to 26", "Its first step is the primary derivation of the fact.");
        PointsToSolver x = chain();
        primary(x, 3, 1, 4, 2, ABSENT);
        s.description("23 to 26",
            "Each further step is the primary derivation of the same object at the source of the step"
            + " before.");
        step(x, 3, 1, 1, 3, 100, 0);
        step(x, 3, 1, 2, 2, 1, 0);
        step(x, 3, 1, 3, 1, ABSENT, ABSENT);
        PointsToSolver objects = Texts.solve("new a o;new b p;copy c a;copy c b;copy d c;");
        step(objects, 3, 0, 1, 2, 0, ABSENT);
        step(objects, 3, 0, 2, 0, ABSENT, ABSENT);
        step(objects, 3, 1, 1, 3, 1, ABSENT);
        step(objects, 3, 1, 2, 1, ABSENT, ABSENT);
        s.description("23 to 26", "The last step is a new constraint.");
        primary(x, 0, 0, 0, ABSENT, ABSENT);
        s.due("explanationLength(0, 0)", x.explanationLength(0, 0), 1);
        s.due("explanationConstraint(3, 1, 3)", x.explanationConstraint(3, 1, 3), 1);
        s.due("explanationSource(3, 1, 3)", x.explanationSource(3, 1, 3), ABSENT);
        s.due("explanationConstraint(3, 1, 4)", x.explanationConstraint(3, 1, 4), ABSENT);
        s.due("explanationLength(3, 1)", x.explanationLength(3, 1), 4);
    }

    private void proofs() {
        s.description("27", "The proof of a fact is the set of all constraints in its explanation,"
            + " together with the proofs of all facts that supply the via objects of these steps: for"
            + " load and call the fact that the via object is in the set of y, for store the fact that"
            + " it is in the set of x.");
        s.due("of a new", chain().proof(0, 0), 1);
        s.due("of a copy, a load, a store and a new", chain().proof(3, 1), 31);
        s.due("of a copy alone", Texts.solve("new z p;new x o;copy y x;").proof(2, 1), 6);
        PointsToSolver load = Texts.solve(
            "new x a;new q o;store x f q;new w a;copy v w;load y v f;new w b;");
        s.due("of a load, with its via's proof", load.proof(4, 1), 1 + 2 + 4 + 8 + 16 + 32);
        PointsToSolver store = Texts.solve("new q o;new w a;copy x w;store x f q;new q n;");
        s.due("of a store, with its via's proof", store.proof(104, 0), 1 + 2 + 4 + 8);
        s.due("of a call's argument, with its function's proof",
            Texts.solve("new w f;copy y w;new z o;call x y z;fun f p r;new w g;").proof(4, 1), 15);
        s.due("of a call's result, with its function's proof",
            Texts.solve("new w f;copy y w;new r o;call x y z;fun f p r;new z g;").proof(3, 1), 15);
        PointsToSolver deep = Texts.solve("new x a;new y b;store x f y;load z x f;new w o;"
            + "store z g w;load v z g;new z b;");
        s.due("of a via at once", deep.proof(105, 2), 16 + 32 + 128);
        deep.setEnabled(7, false);
        s.due("of a via by a load", deep.proof(105, 2), 1 + 2 + 4 + 8 + 16 + 32);
        s.due("of what is loaded from there", deep.proof(4, 2), 127);
    }

    private interface Query {
        int ask(PointsToSolver x, int location, int object);
    }

    /** INVALID for each wrong location with a right object, the other way round, and for both. */
    private void invalid(String call, Query query) {
        int[] noLocations = Bounds.noLocations(4, 2, 1);
        PointsToSolver first = chain();
        Bounds.invalid(s, call + ", location", noLocations,
            location -> query.ask(first, location, 1));
        PointsToSolver second = chain();
        Bounds.invalid(s, call + ", object", Bounds.outside(2), object -> query.ask(second, 0, object));
        Bounds.invalid(s, call + ", object", Bounds.outside(2),
            object -> query.ask(second, 104, object));
        PointsToSolver third = chain();
        s.due(call + " of both", query.ask(third, 4, 2), -1);
        s.due(call + " of no fact's location", query.ask(third, 101, 0), -1);
        PointsToSolver none = new PointsToSolver();
        s.due(call + " of nothing", query.ask(none, 0, 0), -1);
        PointsToSolver full = BoundsOfSolution.fullest();
        s.due(call + " past the last object", query.ask(full, 139, 10), -1);
        s.due(call + " past the last location", query.ask(full, 140, 9), -1);
    }

    /** What is due for pairs that are no facts. */
    private void noFact(String call, Query query, int due) {
        PointsToSolver x = chain();
        s.due(call + " of p b", query.ask(x, 0, 1), due);
        s.due(call + " of s a", query.ask(x, 3, 0), due);
        s.due(call + " of a.f a", query.ask(x, 100, 0), due);
        s.due(call + " of b.f b", query.ask(x, 104, 1), due);
        x.setEnabled(4, false);
        s.due(call + " of what is a fact no more", query.ask(x, 3, 1), due);
    }

    private void promise21() {
        s.promise(21, "Returns the round of the fact");
        PointsToSolver x = chain();
        s.due("roundOf(0, 0)", x.roundOf(0, 0), 1);
        s.due("roundOf(3, 1)", x.roundOf(3, 1), 4);
        x.addConstraint(NEW, 3, 1, ABSENT);
        s.due("of a fact that comes sooner now", x.roundOf(3, 1), 1);
        s.due("of the last fact", BoundsOfSolution.fullest().roundOf(139, 9), 2);
        s.promise(21, "INVALID if the location or the object does not exist");
        invalid("roundOf", PointsToSolver::roundOf);
        s.promise(21, "ABSENT if the object is not in the set of the location.");
        noFact("roundOf", PointsToSolver::roundOf, ABSENT);
    }

    private void promise22() {
        s.promise(22, "Counts all derivations of a fact in the solution, not only those that were"
            + " applicable in its round.");
        PointsToSolver late = Texts.solve("new x o;copy y x;copy z y;copy x z;");
        s.due("of x", late.derivationCount(0, 0), 2);
        s.due("of z", late.derivationCount(2, 0), 1);
        PointsToSolver vias = Texts.solve("new x a;new q o;store x f q;load y x f;new w b;copy x w;");
        s.due("by a via that comes later", vias.derivationCount(2, 1), 2);

        s.promise(22, "Two derivations differ if they differ in the constraint, the source or the via"
            + " object, or if one is by a call's argument and the other by its result.");
        s.due("in the constraint",
            Texts.solve("new x o;copy y x;copy y x;").derivationCount(1, 0), 2);
        PointsToSolver results = Texts.solve(
            "new y f;new y g;new r o;call x y z;fun f p r;fun g p r;copy z r;");
        s.due("in the via object, by one result", results.derivationCount(2, 2), 2);
        s.due("in the via object, by one argument", results.derivationCount(4, 2), 2);
        PointsToSolver both = Texts.solve("new y f;new z o;call x y z;fun f x z;");
        s.due("by argument and by result", both.derivationCount(2, 1), 2);
        PointsToSolver source = Texts.solve("new y f;new z o;new r o;call x y z;fun f x r;");
        s.due("in the source", source.derivationCount(3, 1), 2);

        s.promise(22, "Returns the number of derivations");
        s.due("of a new", chain().derivationCount(0, 0), 1);
        PointsToSolver ten = BoundsOfSolution.fullest();
        s.due("by ten functions' result", ten.derivationCount(15, 9), 10);
        s.due("by one function's parameter", ten.derivationCount(10, 9), 1);
        s.due("by a new and its own call", ten.derivationCount(0, 0), 2);
        s.due("thirty times", Texts.solve("new x o;".repeat(30)).derivationCount(0, 0), 30);
        s.promise(22, "0 if the object is not in the set of the location");
        noFact("derivationCount", PointsToSolver::derivationCount, 0);
        s.promise(22, "INVALID if the location or the object does not exist.");
        invalid("derivationCount", PointsToSolver::derivationCount);
    }

    private void promise23() {
        s.promise(23, "Returns the number of steps of the explanation");
        s.due("of a new", chain().explanationLength(0, 0), 1);
        s.due("of a store", chain().explanationLength(100, 1), 2);
        s.due("of a copy of a load of it", chain().explanationLength(3, 1), 4);
        StringBuilder copies = new StringBuilder("new a o;");
        for (char name = 'b'; name <= 'p'; name++) {
            copies.append("copy ").append(name).append(' ').append((char) (name - 1)).append(';');
        }
        PointsToSolver long16 = Texts.solve(copies.toString());
        s.due("of sixteen variables", long16.explanationLength(15, 0), 16);
        s.due("its last step", long16.explanationConstraint(15, 0, 15), 0);
        s.due("past its last step", long16.explanationConstraint(15, 0, 16), ABSENT);
        s.promise(23, "INVALID if the location or the object does not exist");
        invalid("explanationLength", PointsToSolver::explanationLength);
        s.promise(23, "ABSENT if it is not a fact.");
        noFact("explanationLength", PointsToSolver::explanationLength, ABSENT);
    }

    /** The sentences that three promises share: wrong pairs, negative steps, steps too high. */
    private void wrongSteps(int promise, Step step, String absent) {
        s.promise(promise, "INVALID if the location or the object does not exist or step is negative"
            + " (checked first)");
        invalid("step 0", (x, location, object) -> step.ask(x, location, object, 0));
        invalid("step 100", (x, location, object) -> step.ask(x, location, object, 100));
        invalid("step -1", (x, location, object) -> step.ask(x, location, object, -1));
        for (int negative : new int[] {-1, -2, -4, -32, Integer.MIN_VALUE, Integer.MIN_VALUE + 1}) {
            s.due("step " + negative + " of a fact", step.ask(chain(), 3, 1, negative), -1);
            s.due("step " + negative + " of a new", step.ask(chain(), 0, 0, negative), -1);
            s.due("step " + negative + " of no fact", step.ask(chain(), 3, 0, negative), -1);
        }
        s.promise(promise, absent);
        noFact("step 0", (x, location, object) -> step.ask(x, location, object, 0), ABSENT);
        noFact("step 5", (x, location, object) -> step.ask(x, location, object, 5), ABSENT);
        for (int above : new int[] {4, 5, 6, 32, 100, 256, 65536, Integer.MAX_VALUE}) {
            s.due("step " + above + " of four", step.ask(chain(), 3, 1, above), ABSENT);
            s.due("step " + above + " of two", step.ask(chain(), 100, 1, above), ABSENT);
        }
        s.due("step 1 of one", step.ask(chain(), 0, 0, 1), ABSENT);
    }

    private interface Step {
        int ask(PointsToSolver x, int location, int object, int step);
    }

    private void promise24() {
        PointsToSolver x = chain();
        s.promise(24,
            "`step`: a step of the explanation, 0 for the primary derivation of the fact itself");
        s.due("step 0", x.explanationConstraint(3, 1, 0), 4);
        s.promise(24, "Returns the constraint of that step");
        s.due("step 1", x.explanationConstraint(3, 1, 1), 3);
        s.due("step 2", x.explanationConstraint(3, 1, 2), 2);
        s.due("step 3", x.explanationConstraint(3, 1, 3), 1);
        wrongSteps(24, PointsToSolver::explanationConstraint,
            "ABSENT if it is not a fact or the explanation has no such step.");
    }

    private void promise25() {
        PointsToSolver x = chain();
        s.promise(25,
            "`step`: a step of the explanation, 0 for the primary derivation of the fact itself");
        s.due("step 0", x.explanationSource(3, 1, 0), 2);
        s.promise(25, "Returns the source location of that step");
        s.due("step 1, a field", x.explanationSource(3, 1, 1), 100);
        s.due("step 2, a variable", x.explanationSource(3, 1, 2), 1);
        PointsToSolver last = BoundsOfSolution.fullest();
        s.due("variable 0", last.explanationSource(139, 9, 0), 0);
        PointsToSolver field = Texts.solve("new a a;new a b;new a c;new a d;new a e;new a f;new a g;"
            + "new a h;new a i;new b j;load c c k;load c c l;load c c m;store b n a;load c b n;");
        s.due("the last field", field.explanationSource(2, 0, 0), 139);
        wrongSteps(25, PointsToSolver::explanationSource, "ABSENT if it is not a fact, the"
            + " explanation has no such step, or the step is a new constraint.");
        s.due("a new at step 0", x.explanationSource(0, 0, 0), ABSENT);
        s.due("a new at step 3", x.explanationSource(3, 1, 3), ABSENT);
    }

    private void promise26() {
        PointsToSolver x = chain();
        s.promise(26,
            "`step`: a step of the explanation, 0 for the primary derivation of the fact itself");
        s.due("step 0", x.explanationVia(100, 1, 0), 0);
        s.promise(26, "Returns the via object of that step");
        s.due("step 1, of a load", x.explanationVia(3, 1, 1), 0);
        s.due("step 2, of a store", x.explanationVia(3, 1, 2), 0);
        PointsToSolver call = Texts.solve("new y n;new y f;new z o;call x y z;fun f p r;copy r p;");
        s.due("of a call's result", call.explanationVia(2, 2, 0), 1);
        s.due("of a call's argument", call.explanationVia(2, 2, 2), 1);
        PointsToSolver last = Texts.solve("new a a;new a b;new a c;new a d;new a e;new a f;new a g;"
            + "new a h;new a i;new b j;store b n a;");
        s.due("the last object", last.explanationVia(136, 0, 0), 9);
        wrongSteps(26, PointsToSolver::explanationVia, "ABSENT if it is not a fact, the explanation"
            + " has no such step, or the step has no via object.");
        s.due("a copy at step 0", x.explanationVia(3, 1, 0), ABSENT);
        s.due("a copy at step 1", call.explanationVia(2, 2, 1), ABSENT);
        s.due("a new at step 0", x.explanationVia(0, 0, 0), ABSENT);
        s.due("a new at step 3", x.explanationVia(3, 1, 3), ABSENT);
    }

    private void promise27() {
        s.promise(27, "Returns the proof of the fact as a bit set of constraints");
        PointsToSolver x = chain();
        s.due("of a new", x.proof(1, 1), 2);
        s.due("of all", x.proof(3, 1), 31);
        PointsToSolver last = Texts.solve("new x o;".repeat(28) + "new y p;copy z y;");
        s.due("of the last of 30", last.proof(2, 1), 3 << 28);
        s.promise(27, "0 if it is not a fact");
        noFact("proof", PointsToSolver::proof, 0);
        s.promise(27, "INVALID if the location or the object does not exist.");
        invalid("proof", PointsToSolver::proof);
    }

    private void promise28() {
        s.promise(28, "Finds the constraints that a fact depends on: those enabled constraints for"
            + " which the fact would no longer hold if that one constraint alone were disabled.");
        s.due("of all", chain().necessaryConstraints(3, 1), 31);
        PointsToSolver either = Texts.solve("new x o;new x o;copy y x;copy y x;copy z y;");
        s.due("of two ways", either.necessaryConstraints(1, 0), 0);
        s.due("behind two ways", either.necessaryConstraints(2, 0), 16);
        either.setEnabled(1, false);
        s.due("a disabled one is none", either.necessaryConstraints(2, 0), 1 + 16);
        either.setEnabled(2, false);
        s.due("of one way", either.necessaryConstraints(2, 0), 1 + 8 + 16);
        PointsToSolver vias = Texts.solve("new x a;new x b;new q o;store x f q;load y x f;");
        s.due("of two vias", vias.necessaryConstraints(2, 2), 4 + 8 + 16);
        PointsToSolver cycle = Texts.solve("new x o;copy y x;copy x y;");
        s.due("of a cycle", cycle.necessaryConstraints(0, 0), 1);

        s.promise(28, "Returns the bit set of these constraints");
        PointsToSolver last = Texts.solve("new x o;".repeat(28) + "new y p;copy z y;");
        s.due("of the last of 30", last.necessaryConstraints(2, 1), 3 << 28);
        s.due("of 28 equal ones", last.necessaryConstraints(0, 0), 0);
        s.promise(28, "0 if it is not a fact");
        noFact("necessaryConstraints", PointsToSolver::necessaryConstraints, 0);
        s.promise(28, "INVALID if the location or the object does not exist.");
        invalid("necessaryConstraints", PointsToSolver::necessaryConstraints);
    }
}
