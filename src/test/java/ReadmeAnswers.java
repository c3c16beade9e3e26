import java.util.Map;
import java.util.TreeMap;

/** What the calls in README.md are said to answer, and what they do answer, by the lines that show them. */
final class ReadmeAnswers {
    private final Map<Integer, String> due = new TreeMap<>();
    private final Map<Integer, String> got = new TreeMap<>();

    void due(int line, String answers) {
        due.put(line, answers);
    }

    /** A line in a loop answers several times. */
    void got(int line, Object answer) {
        got.merge(line, String.valueOf(answer), (before, last) -> before + ", then " + last);
    }

    void finish() {
        Check check = new Check();
        due.forEach((line, answers) ->
                check.same("README.md, line " + line, got.getOrDefault(line, "nothing"), answers));
        check.finish("README.md");
    }
}
