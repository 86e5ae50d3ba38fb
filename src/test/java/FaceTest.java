import java.io.IOException;
import java.lang.reflect.Constructor;
import java.lang.reflect.Field;
import java.lang.reflect.Method;
import java.lang.reflect.Modifier;
import java.lang.reflect.Parameter;
import java.nio.file.Files;
import java.nio.file.Path;
import java.util.ArrayList;
import java.util.Collections;
import java.util.List;
import java.util.regex.Matcher;
import java.util.regex.Pattern;

/** The class has the face that the document shows: no more, no less, and in its order. */
public final class FaceTest {
    private static final Path DOCUMENT = Path.of("../shared/DOC.md");
    private static final int PROMISES = 28;
    private static final Pattern CONSTANT = Pattern.compile("(\\w+) = (-?\\d+)");
    private static final Pattern QUOTED = Pattern.compile("`(\\w+)`");

    private final List<String> document;
    private final List<String> source;
    private final List<String> face = new ArrayList<>();
    private int checks;
    private int wrong;

    private FaceTest(List<String> newDocument, List<String> newSource) {
        document = newDocument;
        source = newSource;
        int start = document.indexOf("```java");
        int end = document.indexOf("```");
        for (String line : document.subList(start + 1, Math.max(start + 1, end))) {
            face.add(line.strip());
        }
    }

    public static void main(String[] args) throws IOException {
        Path file = Path.of(args.length > 0 ? args[0] : "src/main/java/Resolverium.java");
        FaceTest test = new FaceTest(Files.readAllLines(DOCUMENT), Files.readAllLines(file));
        test.lookAtClass();
        test.lookAtConstants();
        test.lookAtCalls();
        test.lookAtPromises();
        test.lookAtHeadings();
        System.out.println(test.checks + " checks of the face, " + test.wrong + " wrong");
        if (test.wrong != 0) {
            System.exit(1);
        }
    }

    private void due(String what, Object got, Object want) {
        checks++;
        if (!got.equals(want)) {
            wrong++;
            System.out.println(what + " is " + got + ", due is " + want);
        }
    }

    private void lookAtClass() {
        due("the class", Modifier.toString(Resolverium.class.getModifiers()) + " class "
                + Resolverium.class.getName() + " {", face.get(0));
        due("what it extends", Resolverium.class.getSuperclass(), Object.class);
        due("what it implements", Resolverium.class.getInterfaces().length, 0);
        Constructor<?>[] constructors = Resolverium.class.getDeclaredConstructors();
        due("how many constructors", constructors.length, 1);
        due("its modifiers", Modifier.toString(constructors[0].getModifiers()), "public");
        due("its parameters", constructors[0].getParameterCount(), 0);
        due("its exceptions", constructors[0].getExceptionTypes().length, 0);
        due("whether the face has it", face.contains("public Resolverium();"), true);
    }

    /** Each constant that is visible, with its value, and each that the document tells. */
    private void lookAtConstants() {
        List<String> told = new ArrayList<>();
        for (String line : face) {
            Matcher constant = CONSTANT.matcher(line);
            while (line.startsWith("public static final int ") && constant.find()) {
                told.add(constant.group());
            }
        }
        List<String> visible = new ArrayList<>();
        for (Field field : Resolverium.class.getDeclaredFields()) {
            if (!Modifier.isPrivate(field.getModifiers()) && !field.isSynthetic()) {
                due("what " + field.getName() + " is", Modifier.toString(field.getModifiers()) + " " + field.getType(),
                        "public static final int");
                visible.add(field.getName() + " = " + value(field));
            }
        }
        due("how many constants are told", told.size(), 22);
        Collections.sort(told);
        Collections.sort(visible);
        due("the constants", visible, told);
        for (String line : document) {
            if (line.startsWith("`NONE = ") || line.startsWith("`EXACT = ") || line.startsWith("`NORMAL = ")
                    || line.startsWith("`FINE = ")) {
                String list = line.substring(1, line.lastIndexOf('`'));
                due("whether the face has " + list, face.contains("public static final int " + list + ";"), true);
            }
        }
    }

    private static String value(Field field) {
        try {
            return String.valueOf(field.getInt(null));
        } catch (IllegalAccessException e) {
            return e.toString();
        }
    }

    private void lookAtCalls() {
        List<String> told = new ArrayList<>();
        for (String line : face) {
            if (line.contains("(") && !line.equals("public Resolverium();")) {
                told.add(line);
            }
        }
        List<String> visible = new ArrayList<>();
        for (Method method : Resolverium.class.getDeclaredMethods()) {
            if (!Modifier.isPrivate(method.getModifiers()) && !method.isSynthetic()) {
                visible.add(asTold(method));
            }
        }
        due("how many calls are told", told.size(), PROMISES - 1);
        Collections.sort(told);
        Collections.sort(visible);
        for (int i = 0; i < Math.min(told.size(), visible.size()); i++) {
            due("a call", visible.get(i), told.get(i));
        }
        due("how many calls are visible", visible.size(), told.size());
    }

    /** A call as the document shows it; the parameters have their names by javac's -parameters. */
    private static String asTold(Method method) {
        List<String> parameters = new ArrayList<>();
        for (Parameter parameter : method.getParameters()) {
            parameters.add(parameter.getType().getSimpleName() + " " + parameter.getName());
        }
        List<String> exceptions = new ArrayList<>();
        for (Class<?> exception : method.getExceptionTypes()) {
            exceptions.add(exception.getSimpleName());
        }
        return Modifier.toString(method.getModifiers()) + " " + method.getReturnType().getSimpleName() + " "
                + method.getName() + "(" + String.join(", ", parameters) + ")"
                + (exceptions.isEmpty() ? "" : " throws " + String.join(", ", exceptions)) + ";";
    }

    /** Each promise is headed by the call that the face has at its place. */
    private void lookAtPromises() {
        int first = face.indexOf("public Resolverium();");
        for (int promise = 1; promise <= PROMISES; promise++) {
            String heading = "";
            String call = "";
            for (int i = 0; i + 2 < document.size(); i++) {
                if (document.get(i).startsWith("## Promise " + promise + ": ")) {
                    heading = document.get(i);
                    call = document.get(i + 2);
                }
            }
            due("the call of " + heading, face.get(first + promise - 1),
                    "public " + call.substring(call.indexOf('`') + 1, Math.max(1, call.indexOf("`:"))) + ";");
        }
    }

    /** The headings of the interface stand in the source, each ahead of its calls. */
    private void lookAtHeadings() {
        int place = 0;
        int headings = 0;
        for (String line : document) {
            if (line.startsWith("Ahead of the calls ")) {
                headings++;
                String heading = line.substring(line.indexOf("----"), line.length() - 1);
                place = placeOf("// " + heading, place);
                Matcher quoted = QUOTED.matcher(line);
                while (quoted.find()) {
                    place = placeOf("public \\w+ " + quoted.group(1) + "\\(.*", place);
                }
            }
        }
        due("how many headings", headings, 6);
    }

    /** The place behind the first line from a place on that is this; the same place if there is none. */
    private int placeOf(String pattern, int from) {
        for (int i = from; i < source.size(); i++) {
            if (source.get(i).strip().matches(pattern)) {
                due("the order of " + pattern, true, true);
                return i + 1;
            }
        }
        due("whether the source has, from line " + from + " on, " + pattern, false, true);
        return from;
    }
}
