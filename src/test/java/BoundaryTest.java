import java.io.IOException;
import java.nio.file.Path;
import java.util.List;

/**
 * Each sentence of the document that names a boundary, quoted with the promise that it binds, has
 * checks of its own. The second argument is DOC.md: every clause of it must be quoted.
 */
public final class BoundaryTest {
    /** Clauses that tell what the document is about, or of what type an argument is. */
    private static final List<String> PLAIN = List.of(
        "An inclusion-based (Andersen-style) points-to analysis with field-sensitive objects and"
            + " indirect calls",
        "what later calls answer is free",
        "A program is a list of constraints over variables, objects and fields",
        "The solver computes the least points-to sets, explains how each object got into a set, builds"
            + " the graph of copy edges with its strongly connected components, resolves indirect"
            + " calls, and answers what would change if constraints were disabled",
        "Constraints can be added, enabled and disabled", "these changes can be undone",
        "INPUT", "Syntax errors", "LOCATIONS", "POINTS-TO SETS", "DERIVATIONS", "COPY EDGES", "CHANGES",
        "A location is a variable or a field of an object",
        "The explanation of a fact is a list of steps",
        "The constants",
        "The constructor and the methods follow, a promise each: the signature, then what it does",
        "How the state is held inside the object is free, as are the speed of each call, the text of"
            + " toString and the behaviour of equals and hashCode",
        "Use of one object from several threads at once is not promised to be safe",
        "Nothing is promised beyond the answers and state changes described above, and nothing about an"
            + " object after its 512th call",
        "`constraint`: a constraint number", "`object`: an object number",
        "`location`: a location", "`first`: a location", "`from`: a location",
        "`to`: a location", "`index`: a byte index", "`first`: the first operand",
        "`second`: the second operand", "`enabled`: the new state",
        "`constraints`: a bit set of constraints");

    public static void main(String[] args) throws IOException {
        Sentences s = new Sentences();
        new BoundsOfInput(s).check();
        new BoundsOfProgram(s).check();
        new BoundsOfSolution(s).check();
        new BoundsOfDerivations(s).check();
        new BoundsOfEdges(s).check();
        new BoundsOfCalls(s).check();
        new BoundsOfChanges(s).check();
        s.compare(Path.of(args[1]), PLAIN);
        s.end();
    }
}
