/** Promises 44 and 45: the dump. */
public final class DumpTest {
    private static final Checks CHECKS = new Checks();

    public static void main(String[] args) {
        promise44And45Texts();
        promise45WrongIndex();
        dumpFollowsChanges();
        longestDump();
        CHECKS.end();
    }

    private static void dumped(String text, String dump) {
        PointsToSolver x = Texts.solve(text);
        CHECKS.due("44 of " + text, x.dumpLength(), dump.length());
        CHECKS.dueText("45 of " + text, Texts.dump(x), dump);
    }

    private static void promise44And45Texts() {
        dumped("", "");
        dumped("copy x y;", "");
        dumped("new x o;", "x o;");
        dumped("new y b;new x a;new y a;", "y b a;x a;");
        dumped("copy e x;load d x f;new x o;", "e o;x o;");
        dumped("new p a;new q b;store p f q;", "p a;q b;");
        dumped("new abc abcdef;new z zz;copy z abc;", "abc abcdef;z abcdef zz;");
        dumped("copy a b;copy c d;copy e f;copy g h;copy i j;copy k l;copy m n;copy o p;"
            + "new p x;new a y;store a f a;store p f p;", "a y;o x;p x;");
        dumped("fun g x y;call r c a;new a o;new c g;", "x o;c g;a o;");
    }

    private static void promise45WrongIndex() {
        PointsToSolver x = Texts.solve("new x o;");
        CHECKS.due("45 at 0", x.dumpByte(0), 'x');
        CHECKS.due("45 at 1", x.dumpByte(1), ' ');
        CHECKS.due("45 at 3", x.dumpByte(3), ';');
        for (int index : new int[] {4, 5, 1231, 1232, -1, Integer.MIN_VALUE, Integer.MAX_VALUE}) {
            CHECKS.due("45 at " + index, x.dumpByte(index), -1);
        }
        CHECKS.due("45 of nothing", new PointsToSolver().dumpByte(0), -1);
    }

    private static void dumpFollowsChanges() {
        PointsToSolver x = Texts.solve("new x o;new y p;");
        CHECKS.dueText("44 at first", Texts.dump(x), "x o;y p;");
        x.setEnabled(0, false);
        CHECKS.dueText("44 after a disabling", Texts.dump(x), "y p;");
        x.addConstraint(PointsToSolver.COPY, 0, 1, -2);
        CHECKS.dueText("44 after an addition", Texts.dump(x), "x p;y p;");
        x.undo();
        CHECKS.dueText("44 after an undo", Texts.dump(x), "y p;");
        x.saveSnapshot(0);
        x.undo();
        CHECKS.dueText("44 after another", Texts.dump(x), "x o;y p;");
        x.restoreSnapshot(0);
        CHECKS.dueText("44 after a restore", Texts.dump(x), "y p;");
        Texts.parse(x, "new q r;");
        CHECKS.dueText("44 after a parse", Texts.dump(x), "q r;");
    }

    private static void longestDump() {
        StringBuilder text = new StringBuilder();
        StringBuilder entry = new StringBuilder();
        for (char letter = 'a'; letter < 'k'; letter++) {
            String name = "zzzzz" + letter;
            text.append("new zzzzza ").append(name).append(';');
            entry.append(' ').append(name);
        }
        StringBuilder dump = new StringBuilder("zzzzza").append(entry).append(';');
        for (char letter = 'b'; letter < 'q'; letter++) {
            text.append("copy zzzzz").append(letter).append(" zzzzza;");
            dump.append("zzzzz").append(letter).append(entry).append(';');
        }
        PointsToSolver x = Texts.solve(text.toString());
        CHECKS.due("44 the longest dump", x.dumpLength(), 1232);
        for (int index = 0; index < dump.length(); index++) {
            // An object is promised 512 calls, so a new one goes on from time to time.
            x = index % 400 == 0 ? Texts.solve(text.toString()) : x;
            CHECKS.due("45 at " + index, x.dumpByte(index), dump.charAt(index));
        }
    }
}
