/** Promises 1 to 4: a new object, append, parse and bufferLength. */
public final class InputTest {
    private static final Checks CHECKS = new Checks();
    private static final int SYNTAX = 1, DUPLICATE = 2, TOO_MANY = 3;

    public static void main(String[] args) {
        promise1NewObject();
        promise2Append();
        promise3ParseTakesALength();
        promise3Statements();
        promise3SyntaxErrors();
        promise3Words();
        promise3TooMany();
        promise3DuplicateFunctions();
        promise3FirstErrorCounts();
        promise3ReplacesTheProgram();
        promise3ErrorLeavesTheProgram();
        promise3ErrorLeavesNoTrace();
        promise4BufferLength();
        CHECKS.end();
    }

    private static void due(String call, long got, long want) {
        CHECKS.due(call, got, want);
    }

    private static void refused(String text, int offset, int kind) {
        PointsToSolver x = new PointsToSolver();
        due("parse of \"" + text + "\"", Texts.parse(x, text), -2 - (8 * offset + kind));
        due("bufferLength after \"" + text + "\"", x.bufferLength(), 0);
        due("variableCount after \"" + text + "\"", x.variableCount(), 0);
    }

    private static void taken(String text, int constraints) {
        PointsToSolver x = new PointsToSolver();
        due("parse of \"" + text + "\"", Texts.parse(x, text), constraints);
        due("constraintCount after \"" + text + "\"", x.constraintCount(), constraints);
        due("bufferLength after \"" + text + "\"", x.bufferLength(), 0);
    }

    private static void promise1NewObject() {
        PointsToSolver x = new PointsToSolver();
        due("1 bufferLength", x.bufferLength(), 0);
        due("1 variableCount", x.variableCount(), 0);
        due("1 objectCount", x.objectCount(), 0);
        due("1 fieldCount", x.fieldCount(), 0);
        due("1 constraintCount", x.constraintCount(), 0);
        due("1 enabledConstraints", x.enabledConstraints(), 0);
        due("1 functions", x.functions(), 0);
        due("1 factCount", x.factCount(), 0);
        due("1 roundCount", x.roundCount(), 0);
        due("1 edgeCount", x.edgeCount(), 0);
        due("1 condensedNodeCount", x.condensedNodeCount(), 0);
        due("1 condensedEdgeCount", x.condensedEdgeCount(), 0);
        due("1 cyclicComponentCount", x.cyclicComponentCount(), 0);
        due("1 uncalledFunctions", x.uncalledFunctions(), 0);
        due("1 mostInfluentialConstraint", x.mostInfluentialConstraint(), -2);
        due("1 redundantConstraintCount", x.redundantConstraintCount(), 0);
        due("1 dumpLength", x.dumpLength(), 0);
        due("1 undoDepth", x.undoDepth(), 0);
        due("1 undo", x.undo(), -2);
        due("1 pointsTo(0)", x.pointsTo(0), -1);
        due("1 addConstraint", x.addConstraint(PointsToSolver.NEW, 0, 0, -2), -1);
        CHECKS.due("1 restoreSnapshot(0)", x.restoreSnapshot(0), false);
        CHECKS.due("1 restoreSnapshot(1)", x.restoreSnapshot(1), false);
    }

    private static void promise2Append() {
        PointsToSolver x = new PointsToSolver();
        for (int chunk = 1; chunk <= 30; chunk++) {
            due("2 append " + chunk, x.append(0x20202020, 0x20202020, 0x20202020, 0x20202020,
                chunk == 30 ? 0x2020203b : 0x20202020), 20 * chunk);
        }
        due("2 append to a full buffer", x.append(0, 0, 0, 0, 0), -1);
        due("2 bufferLength of a full buffer", x.bufferLength(), 600);
        due("2 the last byte is the semicolon", x.parse(600), -2 - (8 * 599 + SYNTAX));
        due("2 append after a parse", x.append(0, 0, 0, 0, 0), 20);

        PointsToSolver y = new PointsToSolver();
        // "new " "abcd" "ef g" "h; " and last a word that is negative: its bytes are illegal.
        due("2 append", y.append(0x6e657720, 0x61626364, 0x65662067, 0x683b2020, -1), 20);
        due("2 a negative word", y.parse(20), -2 - (8 * 16 + SYNTAX));
        y.append(0x6e657720, 0x61626364, 0x65662067, 0x683b2020, -1);
        due("2 the bytes before it", y.parse(16), 1);
        CHECKS.dueText("2 most significant byte first", Texts.dump(y), "abcdef gh;");
    }

    private static void promise3ParseTakesALength() {
        PointsToSolver x = new PointsToSolver();
        due("3 parse(0) of nothing", x.parse(0), 0);
        due("3 parse(1) of nothing", x.parse(1), -1);
        due("3 parse(-1) of nothing", x.parse(-1), -1);
        Texts.append(x, "new x o; new y o; ");
        due("3 parse(21)", x.parse(21), -1);
        due("3 parse(-1)", x.parse(-1), -1);
        due("3 parse(MIN)", x.parse(Integer.MIN_VALUE), -1);
        due("3 parse(MAX)", x.parse(Integer.MAX_VALUE), -1);
        due("3 buffer after a wrong length", x.bufferLength(), 20);
        due("3 parse(8)", x.parse(8), 1);
        due("3 buffer after a part was parsed", x.bufferLength(), 0);
        due("3 variables", x.variableCount(), 1);
        Texts.append(x, "new x o;");
        due("3 parse(0)", x.parse(0), 0);
        due("3 variables after parse(0)", x.variableCount(), 0);
        due("3 buffer after parse(0)", x.bufferLength(), 0);
        Texts.append(x, "new xyz o;");
        due("3 a word cut off", x.parse(5), -2 - (8 * 5 + SYNTAX));
    }

    private static void promise3Statements() {
        taken("", 0);
        taken(" \n\n  ", 0);
        taken("new x o;", 1);
        taken("copy x y;", 1);
        taken("load x y f;", 1);
        taken("store x f y;", 1);
        taken("call x y z;", 1);
        taken("fun o p r;", 0);
        taken("\n new\nx  o ; copy x x;fun o x x;", 2);
        taken("new x x;load x x x;fun x x x;", 2);
        taken("new abcdef zzzzzz;", 1);
        taken("new news funs;copy copyx loadx;", 2);
    }

    private static void promise3SyntaxErrors() {
        refused("n", 0, SYNTAX);
        refused("x", 0, SYNTAX);
        refused(";", 0, SYNTAX);
        refused(" ;", 1, SYNTAX);
        refused("new", 3, SYNTAX);
        refused("new ", 4, SYNTAX);
        refused("new x", 5, SYNTAX);
        refused("new x\n", 6, SYNTAX);
        refused("new x o", 7, SYNTAX);
        refused("new x o ", 8, SYNTAX);
        refused("new x;", 5, SYNTAX);
        refused("new ;", 4, SYNTAX);
        refused("new x o y;", 8, SYNTAX);
        refused("copy x y z;", 9, SYNTAX);
        refused("load x y;", 8, SYNTAX);
        refused("store x f;", 9, SYNTAX);
        refused("call x y z w;", 11, SYNTAX);
        refused("fun o p;", 7, SYNTAX);
        refused("fun o p r s;", 10, SYNTAX);
        refused("new x o;;", 8, SYNTAX);
        refused("new x o;y", 8, SYNTAX);
        refused("new x o new y o;", 8, SYNTAX);
        refused("newx o;", 0, SYNTAX);
    }

    private static void promise3Words() {
        refused("new abcdefg o;", 4, SYNTAX);
        refused("new x abcdefghijklmnopq;", 6, SYNTAX);
        refused("abcdefg", 0, SYNTAX);
        refused("new x o" + "abcdef" + "g;", 6, SYNTAX);
        refused("new new o;", 4, SYNTAX);
        refused("new x copy;", 6, SYNTAX);
        refused("load x y fun;", 9, SYNTAX);
        refused("store x call y;", 8, SYNTAX);
        refused("fun load p r;", 4, SYNTAX);
        refused("call x y store;", 9, SYNTAX);
        refused("new X o;", 4, SYNTAX);
        refused("new x1 o;", 5, SYNTAX);
        refused("new x\to;", 5, SYNTAX);
        refused("new x\ro;", 5, SYNTAX);
        refused("new x `;", 6, SYNTAX);
        refused("new x {;", 6, SYNTAX);
        refused("new x o:", 7, SYNTAX);
        refused("new x o;" + (char) 0, 8, SYNTAX);
        refused("new x o;" + (char) 225, 8, SYNTAX);
        refused("new x o;" + (char) 160, 8, SYNTAX);
        refused("new x o;" + (char) 187, 8, SYNTAX);
    }

    private static void promise3TooMany() {
        String sixteen = "call a b c;call d e f;call g h i;call j k l;call m n o;copy p p;";
        taken(sixteen, 6);
        refused(sixteen + "copy p q;", sixteen.length() + 7, TOO_MANY);
        refused(sixteen + "fun f q r;", sixteen.length() + 6, TOO_MANY);
        refused(sixteen + "new a q;new r q;", sixteen.length() + 12, TOO_MANY);
        String tenObjects = "new x a;new x b;new x c;new x d;new x e;fun f x x;fun g x x;"
            + "new x h;new x i;new x j;";
        taken(tenObjects, 8);
        taken(tenObjects + "new x a;", 9);
        refused(tenObjects + "new x k;", tenObjects.length() + 6, TOO_MANY);
        refused(tenObjects + "fun k x x;", tenObjects.length() + 4, TOO_MANY);
        String fourFields = "load x x a;load x x b;store x c x;load x x d;";
        taken(fourFields + "store x a x;", 5);
        refused(fourFields + "load x x e;", fourFields.length() + 9, TOO_MANY);
        refused(fourFields + "store x e x;", fourFields.length() + 8, TOO_MANY);
        String thirty = "new x o;".repeat(30);
        taken(thirty, 30);
        taken(thirty + "fun o x x;fun p x x;", 30);
        refused(thirty + "new x o;", 240, TOO_MANY);
        refused(thirty + " copy", 241, TOO_MANY);
        refused(thirty + "fun o x x;\ncall", 251, TOO_MANY);
        refused(thirty + "x", 240, SYNTAX);
        refused(thirty + "newnewn", 240, SYNTAX);
    }

    private static void promise3DuplicateFunctions() {
        refused("fun o p r;fun o p r;", 14, DUPLICATE);
        refused("fun o p r;new x o;fun  o", 23, DUPLICATE);
        refused("fun o p r;fun q p r;fun o", 24, DUPLICATE);
        taken("fun o p r;fun q p r;", 0);
        taken("new x o;fun o x x;", 1);
    }

    private static void promise3FirstErrorCounts() {
        refused("fun o p r;fun o ?", 14, DUPLICATE);
        refused("fun o p r;fu o;fun o p r;", 10, SYNTAX);
        refused("new x o;? ;fun o p r;fun o p r;", 8, SYNTAX);
        refused("load x x a;load x x b;load x x c;load x x d;load x x e ?;", 53, TOO_MANY);
        refused("load x x a;load x x b;load x x c;load x x d;load ? x e;", 49, SYNTAX);
        // The buffer is filled up with spaces, which lie behind the parsed bytes.
        refused("new x o;copy x", 14, SYNTAX);
    }

    private static void promise3ReplacesTheProgram() {
        PointsToSolver x = Texts.solve("new x o;new y q;fun q x y;load x y f;copy z x;");
        x.setEnabled(0, false);
        x.saveSnapshot(0);
        x.saveSnapshot(1);
        due("3 parse of another", Texts.parse(x, "new b c;new a c;"), 2);
        due("3 variables", x.variableCount(), 2);
        due("3 objects", x.objectCount(), 1);
        due("3 fields", x.fieldCount(), 0);
        due("3 functions", x.functions(), 0);
        due("3 enabled", x.enabledConstraints(), 3);
        due("3 facts", x.factCount(), 2);
        due("3 undoDepth", x.undoDepth(), 0);
        due("3 undo", x.undo(), -2);
        CHECKS.due("3 slot 0 is empty", x.restoreSnapshot(0), false);
        CHECKS.due("3 slot 1 is empty", x.restoreSnapshot(1), false);
        CHECKS.dueText("3 names", Texts.dump(x), "b c;a c;");
    }

    private static void promise3ErrorLeavesTheProgram() {
        PointsToSolver x = Texts.solve("new x o;copy y x;fun o x y;");
        x.setEnabled(1, false);
        x.saveSnapshot(1);
        x.setEnabled(0, false);
        for (String wrong : new String[] {"new a b;fun b a a;fun b a a;", "new a", "?",
                "load x x a;load x x b;load x x c;load x x d;load x x e;"}) {
            CHECKS.due("3 an error", Texts.parse(x, wrong) < -2, true);
            due("3 variables after it", x.variableCount(), 2);
            due("3 functions after it", x.functions(), 1);
            due("3 parameter after it", x.parameterOf(0), 0);
            due("3 result after it", x.resultOf(0), 1);
            due("3 fields after it", x.fieldCount(), 0);
            due("3 enabled after it", x.enabledConstraints(), 0);
            due("3 undoDepth after it", x.undoDepth(), 2);
        }
        due("3 undo after an error", x.undo(), 1);
        CHECKS.dueText("3 dump after an error", Texts.dump(x), "x o;");
        due("3 undo after an error", x.undo(), 0);
        CHECKS.dueText("3 dump after an error", Texts.dump(x), "x o;y o;");
        CHECKS.due("3 restore after an error", x.restoreSnapshot(1), true);
        CHECKS.dueText("3 dump after an error", Texts.dump(x), "x o;");
    }

    private static void promise3ErrorLeavesNoTrace() {
        PointsToSolver x = new PointsToSolver();
        String wrong = "new a b;fun b c d;load e f g;copy g h;?";
        for (int parse = 0; parse < 3; parse++) {
            due("3 an error", Texts.parse(x, wrong), -2 - (8 * 38 + SYNTAX));
            due("3 a text after it", Texts.parse(x, "new x o;"), 1);
            due("3 its variables", x.variableCount(), 1);
            due("3 its objects", x.objectCount(), 1);
            due("3 its fields", x.fieldCount(), 0);
            due("3 its functions", x.functions(), 0);
            due("3 its enabled constraints", x.enabledConstraints(), 1);
            due("3 a fun after it", Texts.parse(x, "fun b x y;fun o x y;"), 0);
            due("3 its functions", x.functions(), 3);
            due("3 its enabled constraints", x.enabledConstraints(), 0);
        }
    }

    private static void promise4BufferLength() {
        PointsToSolver x = new PointsToSolver();
        due("4 of a new object", x.bufferLength(), 0);
        x.append(1, 2, 3, 4, 5);
        due("4 after an append", x.bufferLength(), 20);
        x.append(1, 2, 3, 4, 5);
        due("4 after two", x.bufferLength(), 40);
        x.parse(41);
        due("4 after a wrong length", x.bufferLength(), 40);
        x.parse(1);
        due("4 after a syntax error", x.bufferLength(), 0);
    }
}
