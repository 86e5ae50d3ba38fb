import java.nio.file.Files;
import java.nio.file.Path;
import java.util.List;
import java.util.Map;
import java.util.Set;
import java.util.TreeMap;
import java.util.TreeSet;
import java.util.regex.Matcher;
import java.util.regex.Pattern;

/** The examples of README.md: each call answers what stands behind it, and no call of the face is left out. */
public final class ReadmeTest {
    private static final Path README = Path.of("README.md");
    private static final String NEW_OBJECT = "Resolverium x = new Resolverium();";
    private static final Pattern CALL =
            Pattern.compile("(?:int (\\w+) = )?x\\.(\\w+)\\((.*?)\\); *// (-?\\w+)(?::.*)?");

    private final Map<String, Integer> names = new TreeMap<>();
    private final Set<String> calls = new TreeSet<>();
    private Resolverium x = new Resolverium();
    private int checks;
    private int wrong;

    public static void main(String[] args) throws Exception {
        ReadmeTest test = new ReadmeTest();
        test.runExamples(Files.readAllLines(README));
        test.lookAtCalls();
        System.out.println(test.checks + " answers in README.md, " + test.wrong + " wrong");
        if (test.wrong != 0 || test.checks == 0) {
            System.exit(1);
        }
    }

    private void runExamples(List<String> lines) throws Exception {
        boolean inside = false;
        for (String line : lines) {
            if (line.startsWith("```")) {
                inside = line.equals("```java");
            } else if (inside && line.equals(NEW_OBJECT)) {
                x = new Resolverium();
                names.clear();
            } else if (inside) {
                runLine(line);
            }
        }
    }

    private void runLine(String line) throws Exception {
        Matcher call = CALL.matcher(line);
        checks++;
        if (!call.matches()) {
            tell(line, "no call with an answer");
            return;
        }
        String[] texts = call.group(3).isEmpty() ? new String[0] : call.group(3).split(", ");
        int[] arguments = new int[texts.length];
        for (int i = 0; i < texts.length; i++) {
            arguments[i] = value(texts[i]);
        }
        String got = Calls.answer(x, call.group(2), arguments);
        String due = call.group(4);
        if (!got.equals(due.endsWith("Exception") ? due : String.valueOf(value(due)))) {
            tell(line, got);
        } else if (call.group(1) != null) {
            names.put(call.group(1), Integer.valueOf(got));
        }
        calls.add(call.group(2));
    }

    /** A number, a name of the example, a constant of the class, or a boolean, which counts 1 or 0. */
    private int value(String text) throws Exception {
        if (text.matches("-?\\d+")) {
            return Integer.parseInt(text);
        }
        if (text.equals("true") || text.equals("false")) {
            return text.equals("true") ? 1 : 0;
        }
        Integer named = names.get(text);
        return named != null ? named : Resolverium.class.getField(text.replace("Resolverium.", "")).getInt(null);
    }

    private void lookAtCalls() {
        for (var method : Resolverium.class.getMethods()) {
            if (method.getDeclaringClass() == Resolverium.class && !calls.contains(method.getName())) {
                tell(method.getName(), "in no example");
            }
        }
    }

    private void tell(String what, String got) {
        wrong++;
        System.out.println("README.md: " + what + " is " + got);
    }
}
