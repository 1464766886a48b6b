/** Puts texts into a solver's input buffer. */
final class Texts {
    private static final int CHUNK = 20;

    private Texts() {
    }

    /** Appends a text, filled up with spaces to a multiple of twenty bytes; the last answer. */
    static int append(PointsToSolver solver, String text) {
        int answer = solver.bufferLength();
        for (int start = 0; start < text.length(); start += CHUNK) {
            answer = solver.append(word(text, start), word(text, start + 4),
                word(text, start + 8), word(text, start + 12), word(text, start + 16));
        }
        return answer;
    }

    /** Appends a text and parses exactly its bytes. */
    static int parse(PointsToSolver solver, String text) {
        append(solver, text);
        return solver.parse(text.length());
    }

    /** A new solver with this program; the text must be right. */
    static PointsToSolver solve(String text) {
        PointsToSolver solver = new PointsToSolver();
        int answer = parse(solver, text);
        if (answer < 0) {
            throw new IllegalArgumentException("parse answered " + answer + " for " + text);
        }
        return solver;
    }

    static String dump(PointsToSolver solver) {
        StringBuilder dump = new StringBuilder();
        for (int index = 0; index < solver.dumpLength(); index++) {
            dump.append((char) solver.dumpByte(index));
        }
        return dump.toString();
    }

    private static int word(String text, int start) {
        int word = 0;
        for (int index = start; index < start + 4; index++) {
            word = word << 8 | (index < text.length() ? text.charAt(index) & 255 : ' ');
        }
        return word;
    }
}
