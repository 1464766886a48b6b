/** The sentences on the face, on INPUT and in promises 1 to 4. */
final class BoundsOfInput {
    private static final int SYNTAX = 1, DUPLICATE = 2, TOO_MANY = 3;

    private static final String[] KEYWORDS = {"new", "copy", "load", "store", "call", "fun"};

    /** A statement of each kind, with names that are all first used in it. */
    private static final String[] STATEMENTS = {
        "new x o", "copy x y", "load x y f", "store x f y", "call x y z", "fun o p r",
    };

    private static final String SIXTEEN_VARIABLES =
        "call a b c;call d e f;call g h i;call j k l;call m n o;copy p p;";
    private static final String TEN_OBJECTS = "new x a;new x b;new x c;new x d;new x e;new x f;"
        + "new x g;new x h;new x i;fun j x x;";
    private static final String FOUR_FIELDS = "load x x a;store x b x;load x x c;store x d x;";
    private static final String THIRTY_CONSTRAINTS = "new x o;".repeat(30);

    private final Sentences s;

    BoundsOfInput(Sentences s) {
        this.s = s;
    }

    void check() {
        constants();
        calls();
        bytes();
        tokens();
        grammar();
        keywords();
        names();
        limits();
        functions();
        firstError();
        syntaxErrors();
        duplicateFunctions();
        tooMany();
        promise1();
        promise2();
        promise3Length();
        promise3Answer();
        promise3Afterwards();
        promise4();
    }

    private void taken(String text, int constraints) {
        PointsToSolver x = new PointsToSolver();
        s.due("parse of \"" + text + "\"", Texts.parse(x, text), constraints);
    }

    private void refused(String text, int offset, int kind) {
        PointsToSolver x = new PointsToSolver();
        s.due("parse of \"" + text + "\"", Texts.parse(x, text), -2 - (8 * offset + kind));
    }

    private void constants() {
        s.description("1 to 51", "`INVALID = -1`: An argument is out of range.");
        s.due("INVALID", PointsToSolver.INVALID, -1);
        s.description("1 to 51", "`ABSENT = -2`: What was asked for does not exist.");
        s.due("ABSENT", PointsToSolver.ABSENT, -2);
        s.description("11 and 46",
            "`NEW = 0, COPY = 1, LOAD = 2, STORE = 3, CALL = 4`: Kinds of constraints.");
        s.due("NEW", PointsToSolver.NEW, 0);
        s.due("COPY", PointsToSolver.COPY, 1);
        s.due("LOAD", PointsToSolver.LOAD, 2);
        s.due("STORE", PointsToSolver.STORE, 3);
        s.due("CALL", PointsToSolver.CALL, 4);
    }

    private void calls() {
        s.description("1 to 51", "An object is used for at most 512 calls after it has been made");
        PointsToSolver changed = Texts.solve("new x o;copy y x;");
        // To put the text in took three calls.
        for (int call = 4; call < 512; call++) {
            s.due("call " + call, changed.setEnabled(0, call % 2 == 1), true);
        }
        s.due("call 512", changed.setEnabled(0, true), false);
        PointsToSolver parsed = new PointsToSolver();
        for (int call = 1; call < 512; call += 2) {
            parsed.append(0x6e657720, 0x78206f3b, 0, 0, 0);
            s.due("call " + (call + 1), parsed.parse(8 + call / 2 % 2), call / 2 % 2 == 0 ? 1 : -67);
        }
        PointsToSolver dear = Texts.solve("new x o;copy y x;copy x y;".repeat(10));
        // To put this text in took fifteen.
        for (int call = 16; call <= 512; call++) {
            s.due("call " + call, dear.redundantConstraintCount(), 30);
        }
        PointsToSolver thrown = new PointsToSolver();
        for (int call = 1; call <= 512; call++) {
            s.due("call " + call, BoundsOfProgram.kindOf(thrown, 0), BoundsOfProgram.THROWN);
        }
    }

    private void bytes() {
        s.description("2", "The input buffer holds at most 600 bytes.");
        PointsToSolver full = new PointsToSolver();
        for (int bytes = 20; bytes <= 600; bytes += 20) {
            s.due("append up to " + bytes, full.append(0, 0, 0, 0, 0), bytes);
        }
        s.due("append to 600", full.append(0, 0, 0, 0, 0), -1);
        taken(" ".repeat(592) + "new x o;", 1);

        s.description("3", "Bytes 32 (space) and 10 (line feed) are white space");
        for (int sign = 0; sign < 256; sign++) {
            boolean space = sign == 32 || sign == 10;
            PointsToSolver x = new PointsToSolver();
            s.due("byte " + sign + " alone", Texts.parse(x, "" + (char) sign), space ? 0 : -3);
            s.due("byte " + sign + " behind a statement",
                Texts.parse(x, "new x o;" + (char) sign), space ? 1 : -67);
            boolean letter = sign >= 'a' && sign <= 'z';
            s.due("byte " + sign + " between tokens", Texts.parse(x, "new" + (char) sign + "x o;"),
                space ? 1 : letter ? -3 : -2 - (8 * 3 + SYNTAX));
        }

        s.description("3", "they separate tokens and are otherwise ignored.");
        taken("new x o;new y o;", 2);
        taken(" new  x\no\n;\n\nnew y\n \no ; ", 2);
        taken(" ", 0);
        taken("\n", 0);
        taken(" \n".repeat(300), 0);
        refused("ne w x o;", 0, SYNTAX);
        refused("new xo;", 6, SYNTAX);
        refused("newx o;", 0, SYNTAX);
        PointsToSolver spaced = Texts.solve("new\nx\no\n;");
        s.dueText("dump", Texts.dump(spaced), "x o;");
    }

    private void tokens() {
        s.description("3", "A token is either a word (a maximal run of lower-case letters a to z,"
            + " 1 to 6 letters long) or a single semicolon.");
        taken("new a z;", 1);
        taken("new abcdef zzzzzz;", 1);
        refused("new abcdefg o;", 4, SYNTAX);
        refused("new x o;;", 8, SYNTAX);
        PointsToSolver x = Texts.solve("copy abcdef abcde;");
        s.due("names of 6 and of 5 letters", x.variableCount(), 2);
        PointsToSolver last = Texts.solve("copy abcdef abcdeg;copy bbcdef abcdef;");
        s.due("names that differ in one letter", last.variableCount(), 3);

        s.description("3", "Any other byte, and any run of more than 6 letters, is an illegal token"
            + " that starts at its first byte.");
        refused("abcdefg", 0, SYNTAX);
        refused("new x ooooooo;", 6, SYNTAX);
        refused("new x " + "o".repeat(594), 6, SYNTAX);
        refused("new  storexx o;", 5, SYNTAX);
        refused("newnewn x o;", 0, SYNTAX);
        refused("new abcdefA o;", 10, SYNTAX);
        refused("new xA o;", 5, SYNTAX);
        refused("new \tx o;", 4, SYNTAX);
        refused("new x o;" + (char) ('a' + 128), 8, SYNTAX);
        refused("new x o;" + (char) (' ' + 128), 8, SYNTAX);
        refused("new x o" + (char) (';' + 128), 7, SYNTAX);
        refused("new x o`", 7, SYNTAX);
        refused("new x o{", 7, SYNTAX);
        refused("new x o:", 7, SYNTAX);
        refused("new x o<", 7, SYNTAX);
    }

    private void grammar() {
        s.description("3", "program = { statement \";\" }");
        taken("", 0);
        taken("new x o;", 1);
        taken("new x o;copy x y;", 2);
        refused("new x o", 7, SYNTAX);
        refused(";", 0, SYNTAX);
        refused("new x o;new x o new x o;", 16, SYNTAX);

        s.description("3", "statement = \"new\" variable object | \"copy\" variable variable"
            + " | \"load\" variable variable field | \"store\" variable field variable"
            + " | \"call\" variable variable variable | \"fun\" object variable variable");
        int[][] names = {{1, 1, 0}, {2, 0, 0}, {2, 0, 1}, {2, 0, 1}, {3, 0, 0}, {2, 1, 0}};
        for (int kind = 0; kind < STATEMENTS.length; kind++) {
            String statement = STATEMENTS[kind];
            taken(statement + ";", kind == 5 ? 0 : 1);
            PointsToSolver x = Texts.solve(statement + ";");
            s.due("variables of " + statement, x.variableCount(), names[kind][0]);
            s.due("objects of " + statement, x.objectCount(), names[kind][1]);
            s.due("fields of " + statement, x.fieldCount(), names[kind][2]);
            refused(statement + " q;", statement.length() + 1, SYNTAX);
            int last = statement.lastIndexOf(' ');
            refused(statement.substring(0, last) + ";", last, SYNTAX);
            int first = statement.indexOf(' ');
            refused(statement.substring(0, first) + ";", first, SYNTAX);
        }
    }

    private void keywords() {
        s.description("3", "The six quoted words are keywords");
        for (String word : new String[] {"ne", "news", "copi", "cop", "copyx", "loa", "loads",
                "stor", "stores", "cal", "calls", "fu", "funs", "enew", "xfun", "x", "eof"}) {
            refused(word + " x y z;", 0, SYNTAX);
        }
        for (int kind = 0; kind < STATEMENTS.length; kind++) {
            taken(STATEMENTS[kind] + ";", kind == 5 ? 0 : 1);
        }

        s.description("3", "variable, object and field are words that are not keywords.");
        for (String statement : STATEMENTS) {
            for (String keyword : KEYWORDS) {
                for (int at = statement.indexOf(' '); at >= 0; at = statement.indexOf(' ', at + 1)) {
                    String wrong = statement.substring(0, at + 1) + keyword
                        + statement.substring(at + 2) + ";";
                    refused(wrong, at + 1, SYNTAX);
                }
            }
        }
        taken("new ne news;load cop loads stor;fun fu calls f;", 2);
    }

    private void names() {
        s.description("3 and 5 to 7", "An identifier is declared by its first use.");
        PointsToSolver once = Texts.solve("new x o;");
        s.due("variables", once.variableCount(), 1);
        s.due("objects", once.objectCount(), 1);
        s.due("fields", once.fieldCount(), 0);
        PointsToSolver again = Texts.solve("new x o;store x f x;new x o;load x x f;fun o x x;");
        s.due("variables", again.variableCount(), 1);
        s.due("objects", again.objectCount(), 1);
        s.due("fields", again.fieldCount(), 1);

        s.description("3 and 5 to 7",
            "Variables, objects and fields have separate name spaces: the same word may name one of"
            + " each.");
        PointsToSolver same = Texts.solve("store a a a;new a a;fun b b b;load b c b;");
        s.due("variables", same.variableCount(), 3);
        s.due("objects", same.objectCount(), 2);
        s.due("fields", same.fieldCount(), 2);
        s.dueText("dump", Texts.dump(same), "a a;");

        s.description("3, 5 to 8 and 12", "Variables, objects, fields and constraints are numbered"
            + " from 0 in the order in which they first appear in the text.");
        PointsToSolver x = Texts.solve("fun z b a;store c g b;load a d f;new d y;new d z;copy e c;");
        int[][] operands = {{2, 0, 0}, {1, 3, 1}, {3, 1, -2}, {3, 0, -2}, {4, 2, -2}};
        s.due("parameterOf(0)", x.parameterOf(0), 0);
        s.due("resultOf(0)", x.resultOf(0), 1);
        for (int constraint = 0; constraint < operands.length; constraint++) {
            for (int position = 0; position < 3; position++) {
                s.due("operand(" + constraint + ", " + position + ")",
                    BoundsOfProgram.operand(x, constraint, position),
                    operands[constraint][position]);
            }
        }
    }

    private void limits() {
        s.description("3 and 5 to 7", "There are at most 16 variables, 10 objects and 4 fields.");
        taken(SIXTEEN_VARIABLES + "copy p a;", 7);
        refused(SIXTEEN_VARIABLES + "copy p q;", SIXTEEN_VARIABLES.length() + 7, TOO_MANY);
        taken(TEN_OBJECTS + "new x a;new x j;", 11);
        refused(TEN_OBJECTS + "new x k;", TEN_OBJECTS.length() + 6, TOO_MANY);
        taken(FOUR_FIELDS + "load x x d;", 5);
        refused(FOUR_FIELDS + "load x x e;", FOUR_FIELDS.length() + 9, TOO_MANY);
        PointsToSolver all = Texts.solve(
            SIXTEEN_VARIABLES + TEN_OBJECTS.replace('x', 'a') + FOUR_FIELDS.replace('x', 'a'));
        s.due("variables", all.variableCount(), 16);
        s.due("objects", all.objectCount(), 10);
        s.due("fields", all.fieldCount(), 4);

        s.description("3 and 8", "The statements new, copy, load, store and call are constraints");
        taken("new x o;copy x y;load x y f;store x f y;call x y z;", 5);

        s.description("3 and 8", "there are at most 30.");
        taken("new x o;".repeat(29), 29);
        taken(THIRTY_CONSTRAINTS, 30);
        refused(THIRTY_CONSTRAINTS + "new x o;", 240, TOO_MANY);
    }

    private void functions() {
        s.description("3, 10, 13 and 14", "\"fun o p r\" declares that object o is a function with"
            + " parameter variable p and result variable r.");
        PointsToSolver x = Texts.solve("copy a b;new a n;fun o p r;fun q b b;");
        s.due("functions()", x.functions(), 2 + 4);
        s.due("parameterOf(1)", x.parameterOf(1), 2);
        s.due("resultOf(1)", x.resultOf(1), 3);
        s.due("parameterOf(2)", x.parameterOf(2), 1);
        s.due("resultOf(2)", x.resultOf(2), 1);

        s.description("3 and 8", "It is not a constraint.");
        PointsToSolver none = new PointsToSolver();
        s.due("parse", Texts.parse(none, "fun o p r;fun q p r;"), 0);
        s.due("constraintCount()", none.constraintCount(), 0);
        s.due("enabledConstraints()", none.enabledConstraints(), 0);
        taken("fun o x x;" + THIRTY_CONSTRAINTS + "fun p x x;fun q x x;", 30);

        s.description("3", "An object can be declared a function only once.");
        taken("new x o;fun o x x;new x o;", 2);
        refused("fun o x x;fun o x x;", 14, DUPLICATE);
        refused("fun o x x;new x o;fun p x x;fun o x y;", 32, DUPLICATE);
        refused(TEN_OBJECTS + "fun j x x;", TEN_OBJECTS.length() + 4, DUPLICATE);

        s.description("3 and 17",
            "A fun statement applies to the whole program, also to constraints that come before it.");
        PointsToSolver late = Texts.solve("call z x y;new x f;new y n;copy r y;fun f p r;");
        s.due("the parameter p", late.pointsTo(4), 2);
        s.due("the result's taker z", late.pointsTo(0), 2);
        s.due("callTargets(0)", late.callTargets(0), 1);
    }

    private void firstError() {
        s.description("3", "The parser reports the first error, that is the one with the lowest byte"
            + " offset.");
        refused("fun o p r;fun o ?;;", 14, DUPLICATE);
        refused("fun o p r;fun ? o;fun o p r;", 14, SYNTAX);
        refused(FOUR_FIELDS + "load x x e ?;", FOUR_FIELDS.length() + 9, TOO_MANY);
        refused(FOUR_FIELDS + "load x ? e;", FOUR_FIELDS.length() + 7, SYNTAX);
        refused(SIXTEEN_VARIABLES + "fun u q q;fun u q q;", SIXTEEN_VARIABLES.length() + 6, TOO_MANY);
        refused(THIRTY_CONSTRAINTS + "copy ? y;", 240, TOO_MANY);
        refused(THIRTY_CONSTRAINTS + "fun f x x;fun f x x;new x o;", 254, DUPLICATE);
        refused("x" + ";".repeat(20), 0, SYNTAX);

        s.description("3",
            "If several errors apply at one offset, it reports the lowest error kind:");
        for (String keyword : KEYWORDS) {
            refused(SIXTEEN_VARIABLES + "copy p " + keyword, SIXTEEN_VARIABLES.length() + 7, SYNTAX);
            refused(TEN_OBJECTS + "new x " + keyword, TEN_OBJECTS.length() + 6, SYNTAX);
            refused(FOUR_FIELDS + "load x x " + keyword, FOUR_FIELDS.length() + 9, SYNTAX);
            refused("new x o;".repeat(29) + "new x o " + keyword + " x o;", 240, SYNTAX);
        }
        refused(SIXTEEN_VARIABLES + "copy p p q;", SIXTEEN_VARIABLES.length() + 9, SYNTAX);
        refused(SIXTEEN_VARIABLES + "copy p qqqqqqq;", SIXTEEN_VARIABLES.length() + 7, SYNTAX);
        refused(THIRTY_CONSTRAINTS + "x x o;", 240, SYNTAX);
        refused(THIRTY_CONSTRAINTS + ";", 240, SYNTAX);
        refused(THIRTY_CONSTRAINTS + "newnewn", 240, SYNTAX);
    }

    private void syntaxErrors() {
        s.description("3", "1 (syntax): an illegal token, or a token that cannot continue a program,"
            + " at the offset of its first byte");
        refused("?", 0, SYNTAX);
        refused("  ?", 2, SYNTAX);
        refused("new x o;\n o;", 10, SYNTAX);
        refused("new  ;", 5, SYNTAX);
        refused("new x\n;", 6, SYNTAX);
        refused("new x o  y;", 9, SYNTAX);
        refused("new x o  new y o;", 9, SYNTAX);
        refused("new x o ; ;", 10, SYNTAX);
        refused(" ".repeat(599) + ";", 599, SYNTAX);
        refused("new x o;" + "\n".repeat(591) + "n", 599, SYNTAX);

        s.description("3",
            "if the text ends too early, at the offset equal to the text's length.");
        for (String statement : STATEMENTS) {
            int named = statement.indexOf(' ');
            for (int length = 1; length < named; length++) {
                refused(statement.substring(0, length), 0, SYNTAX);
            }
            for (int length = named; length <= statement.length(); length++) {
                refused(statement.substring(0, length), length, SYNTAX);
                refused("new x o;" + statement.substring(0, length), 8 + length, SYNTAX);
            }
            refused(statement + " \n\n ", statement.length() + 4, SYNTAX);
        }
        refused(" ".repeat(593) + "new x o", 600, SYNTAX);
        refused("new x " + "o".repeat(6) + " ".repeat(588), 600, SYNTAX);
    }

    private void duplicateFunctions() {
        s.description("3", "2 (duplicate function): an object that is already declared a function, at"
            + " its offset in the second fun statement.");
        refused("fun o p r;fun o p r;", 14, DUPLICATE);
        refused("fun o p r;\nfun \n o", 17, DUPLICATE);
        refused("fun o p r;fun o", 14, DUPLICATE);
        refused("fun o p r;fun q p r;fun q p r;", 24, DUPLICATE);
        refused("fun o o o;fun a o o;fun o o o;", 24, DUPLICATE);
        refused(" ".repeat(585) + "fun o p r;fun o", 599, DUPLICATE);
        taken("fun o o p;fun p p o;", 0);
    }

    private void tooMany() {
        s.description("3", "3 (too many): the identifier that would be the 17th variable, the 11th"
            + " object or the 5th field, at its offset");
        String[] seventeenth = {"new # a", "copy # a", "copy a #", "load # a f", "load a # f",
            "store # f a", "store a f #", "call # a a", "call a # a", "call a a #", "fun f # a",
            "fun f a #"};
        for (String statement : seventeenth) {
            refused(SIXTEEN_VARIABLES + statement.replace('#', 'q') + ";",
                SIXTEEN_VARIABLES.length() + statement.indexOf('#'), TOO_MANY);
        }
        for (String statement : new String[] {"new x #", "fun # x x"}) {
            refused(TEN_OBJECTS + statement.replace('#', 'k') + ";",
                TEN_OBJECTS.length() + statement.indexOf('#'), TOO_MANY);
        }
        for (String statement : new String[] {"load x x #", "store x # x"}) {
            refused(FOUR_FIELDS + statement.replace('#', 'e') + ";",
                FOUR_FIELDS.length() + statement.indexOf('#'), TOO_MANY);
        }
        refused(FOUR_FIELDS + "store x  e", FOUR_FIELDS.length() + 9, TOO_MANY);

        s.description("3", "the keyword that begins the 31st constraint, at its offset.");
        for (int kind = 0; kind < 5; kind++) {
            refused(THIRTY_CONSTRAINTS + STATEMENTS[kind] + ";", 240, TOO_MANY);
            refused(THIRTY_CONSTRAINTS + "fun o x x;\n" + KEYWORDS[kind], 251, TOO_MANY);
        }
        taken(THIRTY_CONSTRAINTS + "fun o x x;", 30);
    }

    private void promise1() {
        s.promise(1, "Creates a solver with an empty program and an empty input buffer.");
        PointsToSolver x = new PointsToSolver();
        s.dueText("the state", Bounds.state(x), Bounds.state(Texts.solve("")));
        s.due("bufferLength()", x.bufferLength(), 0);
        s.due("constraintCount()", x.constraintCount(), 0);
        s.due("variableCount()", x.variableCount(), 0);
        s.due("objectCount()", x.objectCount(), 0);
        s.due("fieldCount()", x.fieldCount(), 0);
        s.due("parse(1)", x.parse(1), -1);
        s.due("parse(0)", x.parse(0), 0);
        s.due("undo()", x.undo(), -2);
        s.due("restoreSnapshot(0)", x.restoreSnapshot(0), false);
        s.due("restoreSnapshot(1)", x.restoreSnapshot(1), false);
        PointsToSolver used = Texts.solve("new x o;");
        s.due("another's facts", used.factCount(), 1);
        s.due("factCount()", x.factCount(), 0);
    }

    private void promise2() {
        s.promise(2, "Appends twenty bytes to the input buffer: the four bytes of a, then those of"
            + " b, c, d and e, each with the most significant byte first.");
        for (int at = 0; at < 20; at++) {
            int[] words = {0x20202020, 0x20202020, 0x20202020, 0x20202020, 0x20202020};
            words[at / 4] |= 0x80 << 24 - at % 4 * 8;
            PointsToSolver x = new PointsToSolver();
            x.append(words[0], words[1], words[2], words[3], words[4]);
            s.due("parse with byte 160 at " + at, x.parse(20), -2 - (8 * at + SYNTAX));
        }
        PointsToSolver named = new PointsToSolver();
        named.append(0x6e657720, 0x61626364, 0x20656667, 0x68696a3b, 0x636f7079);
        named.append(0x206b2061, 0x6263643b, 0x20202020, 0x20202020, 0x20202020);
        s.due("parse of two appends", named.parse(28), 2);
        s.dueText("dump", Texts.dump(named), "abcd efghij;k efghij;");

        s.promise(2, "Returns the new length of the buffer");
        PointsToSolver grown = new PointsToSolver();
        s.due("first append", grown.append(-1, -1, -1, -1, -1), 20);
        s.due("second append", grown.append(Integer.MIN_VALUE, Integer.MAX_VALUE, 0, 1, -1), 40);
        s.due("a wrong length", grown.parse(41), -1);
        s.due("third append", grown.append(0, 0, 0, 0, 0), 60);
        s.due("a syntax error", grown.parse(60), -3);
        s.due("append to the emptied buffer", grown.append(0, 0, 0, 0, 0), 20);

        s.promise(2, "INVALID, with nothing appended, if the buffer would have more than 600 bytes.");
        PointsToSolver full = new PointsToSolver();
        s.due("append up to 600", Texts.append(full, " ".repeat(592) + "new x o;"), 600);
        s.due("append to 600", full.append(-1, -1, -1, -1, -1), -1);
        s.due("append to 600 again", full.append(0x20202020, 0, 0, 0, 0), -1);
        s.due("bufferLength()", full.bufferLength(), 600);
        s.due("parse(600)", full.parse(600), 1);
        s.due("append after the parse", full.append(0, 0, 0, 0, 0), 20);
    }

    private void promise3Length() {
        s.promise(3, "Parses the first length bytes of the input buffer as a program and replaces the"
            + " current program by it.");
        PointsToSolver x = Texts.solve("fun f p r;load a b g;new c n;");
        Texts.append(x, "new y q;copy y z;?");
        s.due("parse(8)", x.parse(8), 1);
        s.due("variableCount()", x.variableCount(), 1);
        s.due("objectCount()", x.objectCount(), 1);
        s.due("fieldCount()", x.fieldCount(), 0);
        s.due("functions()", x.functions(), 0);
        s.due("enabledConstraints()", x.enabledConstraints(), 1);
        s.dueText("dump", Texts.dump(x), "y q;");
        String[] texts = {"fun f p r;load a b g;store a h b;new c n;copy c c;", "new x o;",
            "new a b;fun b c d;load e f g;copy g h;?", "new x o;", "", "fun o p r;", "copy x y;"};
        PointsToSolver many = new PointsToSolver();
        for (String text : texts) {
            PointsToSolver alone = new PointsToSolver();
            Texts.parse(alone, text);
            if (Texts.parse(many, text) >= 0) {
                s.dueText("the state after \"" + text + "\"", Bounds.state(many), Bounds.state(alone));
            }
        }

        s.promise(3, "`length`: number of bytes, 0 to the length of the buffer");
        PointsToSolver whole = new PointsToSolver();
        Texts.append(whole, "copy a b;copy b cd ;");
        s.due("parse(20)", whole.parse(20), 2);
        for (int length = 0; length < 20; length++) {
            PointsToSolver part = new PointsToSolver();
            Texts.append(part, "copy a b;copy b cd ;");
            int due = length == 0 ? 0 : length == 9 ? 1
                : length < 4 ? -3 : length < 9 ? -2 - (8 * length + SYNTAX)
                : length < 13 ? -2 - (8 * 9 + SYNTAX) : -2 - (8 * length + SYNTAX);
            s.due("parse(" + length + ")", part.parse(length), due);
        }

        s.promise(3, "0 gives the empty program");
        PointsToSolver emptied = Texts.solve("fun f p r;load a b g;new c n;");
        s.due("parse(0) of an empty buffer", emptied.parse(0), 0);
        s.dueText("the state", Bounds.state(emptied), Bounds.state(new PointsToSolver()));
        PointsToSolver rest = Texts.solve("new x o;");
        Texts.append(rest, "new y q;");
        s.due("parse(0) of a text", rest.parse(0), 0);
        s.due("variableCount()", rest.variableCount(), 0);
        s.due("pointsTo(0)", rest.pointsTo(0), -1);
    }

    private void promise3Answer() {
        s.promise(3, "Returns the number of constraints");
        taken("new x o;", 1);
        taken("fun o x x;", 0);
        taken(THIRTY_CONSTRAINTS, 30);

        s.promise(3, "INVALID if length is out of range, and then the buffer stays as it is");
        PointsToSolver x = Texts.solve("new x o;");
        Texts.append(x, "copy a b;copy c d; ");
        String before = Bounds.state(x);
        for (int length : Bounds.outside(21)) {
            s.due("parse(" + length + ")", x.parse(length), -1);
        }
        s.due("bufferLength()", x.bufferLength(), 20);
        s.dueText("the program", Bounds.state(x), before);
        s.due("parse(20)", x.parse(20), 2);
        PointsToSolver nothing = new PointsToSolver();
        for (int length : Bounds.outside(1)) {
            s.due("parse(" + length + ") of nothing", nothing.parse(length), -1);
        }
        PointsToSolver full = new PointsToSolver();
        Texts.append(full, " ".repeat(600));
        s.due("parse(601)", full.parse(601), -1);
        s.due("bufferLength()", full.bufferLength(), 600);
        s.due("parse(600)", full.parse(600), 0);

        s.promise(3, "-2 - (8 * offset + kind) for a syntax error.");
        PointsToSolver wrong = new PointsToSolver();
        s.due("kind 1 at 0", Texts.parse(wrong, ";"), -3);
        s.due("kind 1 at 600", Texts.parse(wrong, " ".repeat(597) + "new"), -4803);
        s.due("kind 2 at 14", Texts.parse(wrong, "fun o p r;fun o p r;"), -116);
        s.due("kind 3 at 240", Texts.parse(wrong, THIRTY_CONSTRAINTS + "new x o;"), -1925);
    }

    private void promise3Afterwards() {
        s.promise(3, "After a success or a syntax error the buffer is empty.");
        for (String text : new String[] {"new x o; ;", "new x o new", "fun o p r;fun o p r;",
                THIRTY_CONSTRAINTS + "new x o;"}) {
            PointsToSolver x = new PointsToSolver();
            Texts.append(x, text);
            s.due("parse of an error", x.parse(text.length()) < -2, true);
            s.due("bufferLength()", x.bufferLength(), 0);
            s.due("parse(1)", x.parse(1), -1);
            Texts.append(x, "new x o;" + text);
            s.due("parse of a part", x.parse(8), 1);
            s.due("bufferLength()", x.bufferLength(), 0);
            s.due("parse(1)", x.parse(1), -1);
            Texts.append(x, text);
            s.due("parse(0)", x.parse(0), 0);
            s.due("bufferLength()", x.bufferLength(), 0);
        }

        s.promise(3, "After an error the current program stays as it is, with its undo history and"
            + " snapshots.");
        for (String text : new String[] {"new b n;fun n b b;load a b h;?", "new a",
                "fun n a a;fun n", FOUR_FIELDS + "load x x e;", SIXTEEN_VARIABLES + "new q o;",
                TEN_OBJECTS + "new x k;", THIRTY_CONSTRAINTS + "call"}) {
            PointsToSolver x = Texts.solve("new x o;copy y x;fun o x y;store x f y;");
            x.setEnabled(1, false);
            x.saveSnapshot(1);
            x.addConstraint(PointsToSolver.COPY, 1, 0, -2);
            String before = Bounds.state(x);
            s.due("parse of an error", Texts.parse(x, text) < -2, true);
            s.dueText("the program", Bounds.state(x), before);
            s.due("undo()", x.undo(), 1);
            s.due("constraintCount()", x.constraintCount(), 3);
            s.due("undo()", x.undo(), 0);
            s.due("enabledConstraints()", x.enabledConstraints(), 7);
            s.due("restoreSnapshot(0)", x.restoreSnapshot(0), false);
            s.due("restoreSnapshot(1)", x.restoreSnapshot(1), true);
            s.due("enabledConstraints()", x.enabledConstraints(), 5);
        }
        PointsToSolver lengths = Texts.solve("new x o;");
        lengths.setEnabled(0, false);
        lengths.saveSnapshot(0);
        lengths.parse(1);
        s.due("undo() after a wrong length", lengths.undo(), 0);
        s.due("restoreSnapshot(0) after a wrong length", lengths.restoreSnapshot(0), true);
    }

    private void promise4() {
        s.promise(4, "Returns the number of bytes in the input buffer.");
        PointsToSolver x = new PointsToSolver();
        s.due("at first", x.bufferLength(), 0);
        for (int bytes = 20; bytes <= 600; bytes += 20) {
            x.append(0x20202020, 0x20202020, 0x20202020, 0x20202020, 0x20202020);
            s.due("after an append", x.bufferLength(), bytes);
        }
        x.append(0, 0, 0, 0, 0);
        s.due("after one too many", x.bufferLength(), 600);
        x.parse(1);
        s.due("after a parse of one byte", x.bufferLength(), 0);
    }
}
