import java.util.ArrayList;
import java.util.List;

/** The calls of Resolverium by their names, and all that can be asked of an object. */
final class Calls {
    /** More calls than this, and what an object answers is free. */
    static final int MOST = 512;

    private Calls() { }

    /** The answer as a number; a boolean counts 1 or 0. */
    static int number(Resolverium x, String name, int... a) {
        switch (name) {
            case "publish": return x.publish(a[0], a[1], a[2], a[3], a[4], a[5]);
            case "compare": return x.compare(a[0], a[1]);
            case "yank": return x.yank(a[0]) ? 1 : 0;
            case "setPlatforms": return x.setPlatforms(a[0], a[1]);
            case "bring": return x.bring(a[0], a[1], a[2]) ? 1 : 0;
            case "range": return x.range(a[0], a[1], a[2], a[3], a[4]);
            case "join": return x.join(a[0], a[1], a[2]);
            case "has": return x.has(a[0], a[1]) ? 1 : 0;
            case "need": return x.need(a[0], a[1], a[2], a[3], a[4], a[5], a[6]);
            case "demand": return x.demand(a[0], a[1], a[2], a[3]);
            case "advise": return x.advise(a[0], a[1]);
            case "mending": return x.mending(a[0]);
            case "replace": return x.replace(a[0], a[1]);
            case "setPlatform": return x.setPlatform(a[0]);
            case "solve": return x.solve(a[0], a[1]);
            case "chosen": return x.chosen(a[0]);
            case "chosenAnew": return x.chosenAnew(a[0]);
            case "features": return x.features(a[0]);
            case "solutions": return x.solutions();
            case "why": return x.why();
            case "against": return x.against(a[0]);
            case "lock": return x.lock();
            case "unlock": return x.unlock(a[0]);
            case "install": return x.install(a[0]);
            case "spoil": return x.spoil(a[0]);
            case "onDisk": return x.onDisk(a[0]);
            case "pending": return x.pending();
            default: throw new UnsupportedOperationException(name);
        }
    }

    /** The answer as a text, or the name of the exception that is thrown. */
    static String answer(Resolverium x, String name, int... a) {
        try {
            return String.valueOf(number(x, name, a));
        } catch (RuntimeException e) {
            return e.getClass().getSimpleName();
        }
    }

    /**
     * The answers to some 340 calls, first those that change nothing, then those that tell by their
     * answers what else an object holds: two objects that are alike answer alike.
     */
    static List<String> probe(Resolverium x) {
        List<String> answers = new ArrayList<>();
        askForAll(x, answers);
        for (int v = 0; v <= 24; v++) {
            note(x, answers, "compare", 0, v);
            note(x, answers, "mending", v);
        }
        for (int range = 0; range <= 30; range++) {
            note(x, answers, "has", range, 0);
            note(x, answers, "has", range, 1);
        }
        note(x, answers, "chosenAnew", 0);
        note(x, answers, "setPlatform", 1);
        for (int at = 0; at < 6; at++) {
            note(x, answers, "spoil", at);
            note(x, answers, "replace", at, -1);
            note(x, answers, "unlock", at);
            note(x, answers, "publish", at, 7, 7, 7, 7, 0);
        }
        note(x, answers, "demand", 0, 0, 0, 0);
        note(x, answers, "advise", 5, 0);
        note(x, answers, "join", 9, 0, 0);
        note(x, answers, "range", 0, 7, 7, 7, 7);
        for (int v = 0; v <= 24; v++) {
            note(x, answers, "setPlatforms", v, 7);
            note(x, answers, "yank", v);
            note(x, answers, "need", v, 0, 0, 0, 0, 0, 0);
        }
        for (int i = 0; i < 6 * 9; i++) {
            note(x, answers, "bring", i / 9, i / 3 % 3, i % 3);
        }
        askForAll(x, answers);
        return answers;
    }

    private static void askForAll(Resolverium x, List<String> answers) {
        for (int at = 0; at < 6; at++) {
            note(x, answers, "chosen", at);
            note(x, answers, "features", at);
            note(x, answers, "onDisk", at);
        }
        for (int v = 0; v <= 10; v++) {
            note(x, answers, "against", v);
        }
        note(x, answers, "solutions");
        note(x, answers, "why");
        note(x, answers, "pending");
    }

    private static void note(Resolverium x, List<String> answers, String name, int... a) {
        answers.add(answer(x, name, a));
    }
}
