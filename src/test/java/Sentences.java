import java.io.IOException;
import java.nio.file.Files;
import java.nio.file.Path;
import java.util.ArrayList;
import java.util.Arrays;
import java.util.LinkedHashMap;
import java.util.List;
import java.util.Map;

/**
 * Checks that stand under the sentence of the document that they test. At the end each section that
 * was opened must be tested whole: every word of it belongs to a sentence with a check.
 */
final class Sentences {
    private static final Path DOCUMENT = Path.of("../shared/DOC.md");
    private static final Class<?> INDEX = IndexOutOfBoundsException.class;
    private static final Class<?> ARGUMENT = IllegalArgumentException.class;

    private final Map<String, Map<String, Integer>> tested = new LinkedHashMap<>();
    private final List<Beyond> beyonds = new ArrayList<>();
    private String section = "";
    private String sentence = "";
    private int checks;
    private int wrong;

    /** A value of an argument that is beyond its limits. */
    private record Beyond(int argument, int value, Class<?> due) { }

    /** A call that is right in a world, so that one argument after the other can be put beyond. */
    record Right(World world, String name, int... arguments) {
        int[] with(int argument, int value) {
            int[] changed = arguments.clone();
            changed[argument] = value;
            return changed;
        }
    }

    /** Opens a section of the document, by its heading. */
    void in(String heading) {
        section = heading;
        tested.putIfAbsent(heading, new LinkedHashMap<>());
        beyonds.clear();
    }

    /** The checks that follow test this sentence of the section. */
    void says(String newSentence) {
        sentence = newSentence;
        tested.get(section).putIfAbsent(newSentence, 0);
    }

    void due(String what, Object got, Object want) {
        checks++;
        tested.get(section).merge(sentence, 1, Integer::sum);
        if (!got.equals(want)) {
            wrong++;
            System.out.println(section + ": " + sentence + "\n    " + what + " is " + got + ", due is " + want);
        }
    }

    /** The call throws this, and its object answers as one without the call, whatever is asked. */
    void refused(World world, Class<?> want, String name, int... arguments) {
        Resolverium x = world.make();
        String call = name + Arrays.toString(arguments) + " in " + world;
        due(call, Calls.answer(x, name, arguments), want.getSimpleName());
        List<String> got = Calls.probe(x);
        List<String> before = world.untouched();
        for (int i = 0; i < got.size(); i++) {
            if (!got.get(i).equals(before.get(i))) {
                due("after " + call + " answer " + i, got.get(i), before.get(i));
            }
        }
    }

    /** Both limits of an argument are taken; all beyond them is refused, and changes nothing. */
    void limits(Right call, int argument, int low, int high, Class<?> want) {
        edges(call, argument, low, high, want);
        for (int value : new int[] {low - 1, high + 1, Integer.MIN_VALUE, Integer.MAX_VALUE}) {
            beyonds.add(new Beyond(argument, value, want));
        }
    }

    /** The same, but not kept for the clashes of arguments. */
    void edges(Right call, int argument, int low, int high, Class<?> want) {
        for (int value : new int[] {low, high}) {
            int[] arguments = call.with(argument, value);
            String answer = Calls.answer(call.world.make(), call.name, arguments);
            due(call.name + Arrays.toString(arguments),
                    answer.endsWith("Exception") ? answer : "taken", "taken");
        }
        for (int value : new int[] {low - 1, high + 1, Integer.MIN_VALUE, Integer.MAX_VALUE}) {
            refused(call.world, want, call.name, call.with(argument, value));
        }
    }

    /** Of any two arguments that are beyond their limits the one counts whose exception is first. */
    void clashes(Right call) {
        for (Beyond one : beyonds) {
            for (Beyond other : beyonds) {
                if (one.argument < other.argument) {
                    int[] both = call.with(one.argument, one.value);
                    both[other.argument] = other.value;
                    Class<?> first = one.due == INDEX || other.due == INDEX ? INDEX : ARGUMENT;
                    due(call.name + Arrays.toString(both),
                            Calls.answer(call.world.make(), call.name, both), first.getSimpleName());
                }
            }
        }
    }

    /** What is far beyond the limits of an argument counts before what the call throws without it. */
    void comesBefore(Right call, Class<?> last) {
        refused(call.world, last, call.name, call.arguments);
        for (Beyond beyond : beyonds) {
            if (beyond.value == Integer.MIN_VALUE || beyond.value == Integer.MAX_VALUE) {
                refused(call.world, beyond.due, call.name, call.with(beyond.argument, beyond.value));
            }
        }
    }

    /** Tells what is wrong, and what of the sections that were opened is not tested. */
    void end() throws IOException {
        int sentences = 0;
        for (String heading : tested.keySet()) {
            sentences += tested.get(heading).size();
            if (Files.exists(DOCUMENT)) {
                lookAtSection(heading, textOf(heading));
            } else {
                System.out.println("no " + DOCUMENT + " to look for sentences without a test");
            }
        }
        System.out.println(checks + " checks of " + sentences + " sentences, " + wrong + " wrong");
        if (wrong != 0) {
            System.exit(1);
        }
    }

    private void lookAtSection(String heading, String text) {
        List<String> quotes = new ArrayList<>(tested.get(heading).keySet());
        // The longest ones first, as a short one may stand in a long one, too.
        quotes.sort((one, other) -> other.length() - one.length());
        String untested = text;
        for (String quote : quotes) {
            must(tested.get(heading).get(quote) > 0, heading + ": no check for: " + quote);
            must(text.contains(quote), heading + ": the document does not say: " + quote);
            untested = untested.replace(quote, "\n");
        }
        for (String rest : untested.split("\n")) {
            must(rest.isBlank(), heading + ": no test for: " + rest.strip());
        }
    }

    private void must(boolean good, String fault) {
        if (!good) {
            wrong++;
            System.out.println(fault);
        }
    }

    /** The lines of a section, without the face of a call. */
    private static String textOf(String heading) throws IOException {
        StringBuilder text = new StringBuilder();
        boolean inside = false;
        for (String line : Files.readAllLines(DOCUMENT)) {
            if (line.startsWith("#")) {
                inside = line.replaceFirst("^#+ ", "").equals(heading);
            } else if (inside && !tellsNothing(line)) {
                text.append(line.replaceFirst("^`[^`]*\\)[^`]*`: ", "")).append('\n');
            }
        }
        return text.toString();
    }

    /** A heading without its mark, and the headings that the interface has between its calls. */
    private static boolean tellsNothing(String line) {
        return line.equals("Needs, features, demands") || line.startsWith("Ahead of the calls ");
    }
}
