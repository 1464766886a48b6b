import java.util.ArrayList;
import java.util.LinkedHashMap;
import java.util.List;
import java.util.Map;
import java.util.Set;
import java.util.regex.Matcher;
import java.util.regex.Pattern;

/**
 * DOC.md in sections: one for each promise, and one for all that stands around them. A clause is
 * what stands between full stops, semicolons and the like. The code block of the public face and
 * the examples are left out; LanguageTest and ExamplesTest have them.
 */
final class Document {
    static final String DESCRIPTION = "description";

    private static final Pattern PROMISE = Pattern.compile("## (Promise \\d+): .*");
    private static final String CLAUSE_END = "(?<=[.;]) |(?<=:) (?=[A-Z])";
    private static final String EXAMPLES = "Examples (";
    private static final String BEHIND_EXAMPLES = "The constants:";

    private final Map<String, StringBuilder> texts = new LinkedHashMap<>();
    private String section = DESCRIPTION;
    private boolean inCode = false;
    private boolean inExamples = false;

    Document(String whole) {
        texts.put(DESCRIPTION, new StringBuilder());
        for (String line : whole.split("\n")) {
            read(line);
        }
    }

    private void read(String line) {
        Matcher promise = PROMISE.matcher(line);
        if (promise.matches()) {
            section = promise.group(1).toLowerCase();
            texts.put(section, new StringBuilder());
        } else if (line.startsWith("```")) {
            inCode = !inCode;
        } else if (line.startsWith("#")) {
            section = DESCRIPTION;
        } else {
            inExamples = (inExamples || line.startsWith(EXAMPLES))
                && !line.startsWith(BEHIND_EXAMPLES);
            boolean signature = line.startsWith("`") || line.startsWith("----");
            if (!inCode && !inExamples && !signature) {
                texts.get(section).append(line).append(" \n ");
            }
        }
    }

    Set<String> sections() {
        return texts.keySet();
    }

    String textOf(String name) {
        return plain(texts.get(name).toString());
    }

    List<String> clausesOf(String name) {
        List<String> clauses = new ArrayList<>();
        for (String line : texts.get(name).toString().split("\n")) {
            for (String clause : plain(line).split(CLAUSE_END)) {
                String bare = clause.replaceAll("^- |[.;:]$", "");
                if (!bare.isEmpty()) {
                    clauses.add(bare);
                }
            }
        }
        return clauses;
    }

    /** All white space as one space. */
    static String plain(String words) {
        return words.replaceAll("\\s+", " ").trim();
    }
}
