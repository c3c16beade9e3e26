import java.io.IOException;
import java.nio.file.Files;
import java.nio.file.Path;
import java.util.LinkedHashMap;
import java.util.Map;
import java.util.function.Consumer;

/**
 * Tests that each quote the sentence of the document that they hold the class to. In the end nothing of the terms and
 * the promises may be left that no test has quoted.
 */
final class Sentences {
    private static final Path DOCUMENT = Path.of("..", "shared", "DOC.md");
    /** Far more than all tests need together. */
    private static final int MOST_SECONDS = 120;

    private final Check check = new Check();
    private final Map<String, String> said = new LinkedHashMap<>();
    private final Map<String, String> left = new LinkedHashMap<>();
    private String heading = "";
    private volatile String running = "";

    Sentences() throws IOException {
        for (String line : Files.readAllLines(DOCUMENT)) {
            if (line.startsWith("## ")) {
                heading = line.substring(3);
            } else {
                said.merge(heading, withoutCalls(line) + "\n", String::concat);
            }
        }
        left.putAll(said);
        failIfEndless();
    }

    /** A broken class may never end a call: that is to fail the test too. */
    private void failIfEndless() {
        Thread guard = new Thread(() -> {
            try {
                Thread.sleep(MOST_SECONDS * 1000L);
            } catch (InterruptedException e) {
                return;
            }
            System.out.println("wrong: " + running + ": its test does not end");
            Runtime.getRuntime().halt(1);
        });
        guard.setDaemon(true);
        guard.start();
    }

    /** Without what FaceTest looks at: the call's signature, or the list of the calls that a line is about. */
    private static String withoutCalls(String line) {
        return line.replaceFirst("^`[^`]*`: ", "").replaceFirst("^Ahead of the calls .* the interface says: ", "");
    }

    void in(String newHeading) {
        heading = newHeading;
    }

    void that(String sentence, Consumer<Check> test) {
        running = heading + ": \"" + sentence + "\"";
        check.begin(running);
        check.count(said.getOrDefault(heading, "").contains(sentence), "the document does not say so");
        left.computeIfPresent(heading, (key, text) -> text.replace(sentence, ""));
        int before = check.counted();
        try {
            test.accept(check);
        } catch (RuntimeException e) {
            check.count(false, "its test was cut short by " + e);
        }
        check.count(check.counted() > before, "nothing was checked");
    }

    void finish(String name) {
        check.begin("the document");
        for (Map.Entry<String, String> section : left.entrySet()) {
            boolean binds = section.getKey().equals("Terms") || section.getKey().startsWith("Promise ");
            check.count(!binds || section.getValue().isBlank(),
                    section.getKey() + ": no test for \"" + section.getValue().strip() + "\"");
        }
        check.finish(name);
    }
}
