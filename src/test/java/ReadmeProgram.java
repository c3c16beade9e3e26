import java.io.IOException;
import java.lang.reflect.Method;
import java.lang.reflect.Modifier;
import java.nio.file.Files;
import java.nio.file.Path;
import java.util.ArrayList;
import java.util.List;
import java.util.regex.Matcher;
import java.util.regex.Pattern;

/**
 * Prints a program, ReadmeCalls, of the calls that README.md shows. It holds what each call answers against what the
 * comment behind it says: "// 3", "// 1, then 0" in a loop, "// throws IllegalStateException"; behind a colon the
 * comment only explains.
 */
public final class ReadmeProgram {
    private static final Path README = Path.of("README.md");
    private static final Pattern COMMENTED = Pattern.compile("(.*?) *// (.*)");
    private static final Pattern DECLARATION = Pattern.compile(" *\\w+ (\\w+) = .*;");
    private static final Pattern CALL = Pattern.compile(" *(\\w+\\.\\w+\\(.*\\));");

    private final List<String> calls = new ArrayList<>();
    private final List<String> dues = new ArrayList<>();
    private final StringBuilder shown = new StringBuilder();

    public static void main(String[] args) throws IOException {
        ReadmeProgram program = new ReadmeProgram();
        program.read(Files.readAllLines(README));
        program.needEveryCall();
        program.print();
    }

    private void read(List<String> lines) {
        boolean inside = false;
        for (int number = 1; number <= lines.size(); number++) {
            String line = lines.get(number - 1);
            // Each block stands for itself: a reader may take it alone.
            if (line.equals("```java")) {
                inside = true;
                calls.add("{");
            } else if (inside && line.equals("```")) {
                inside = false;
                calls.add("}");
            } else if (inside) {
                show(number, line);
            }
        }
    }

    private void show(int number, String line) {
        Matcher commented = COMMENTED.matcher(line);
        if (!commented.matches()) {
            shown.append(line);
            calls.add(line);
            return;
        }
        String statement = commented.group(1);
        String due = commented.group(2).replaceFirst(":.*", "");
        shown.append(statement);
        dues.add("answers.due(" + number + ", \"" + due + "\");");
        calls.add(held(number, statement, due));
    }

    private static String held(int number, String statement, String due) {
        if (due.startsWith("throws ")) {
            return "try { " + statement + " " + got(number, "\"no exception\"") + " } catch (RuntimeException e) { "
                    + got(number, "\"throws \" + e.getClass().getSimpleName()") + " }";
        }
        Matcher declaration = DECLARATION.matcher(statement);
        if (declaration.matches()) {
            return statement + " " + got(number, declaration.group(1));
        }
        Matcher call = CALL.matcher(statement);
        if (call.matches()) {
            return got(number, call.group(1));
        }
        throw new IllegalArgumentException("README.md, line " + number + ": nothing ahead of the comment answers");
    }

    private static String got(int number, String answer) {
        return "answers.got(" + number + ", " + answer + ");";
    }

    private void needEveryCall() {
        for (Method method : OneMachine.class.getDeclaredMethods()) {
            boolean isShown = shown.indexOf("." + method.getName() + "(") >= 0;
            if (Modifier.isPublic(method.getModifiers()) && !isShown) {
                throw new IllegalArgumentException("README.md does not show " + method.getName());
            }
        }
    }

    private void print() {
        System.out.println("public final class ReadmeCalls {");
        System.out.println("public static void main(String[] args) {");
        System.out.println("ReadmeAnswers answers = new ReadmeAnswers();");
        dues.forEach(System.out::println);
        calls.forEach(System.out::println);
        System.out.println("answers.finish();");
        System.out.println("}");
        System.out.println("}");
    }
}
