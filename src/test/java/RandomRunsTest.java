import java.util.Arrays;
import java.util.Random;

/** Random runs of calls, the same ones each time, on Resolverium and on Model side by side. */
public final class RandomRunsTest {
    private static final int RUNS = 1500;
    /** Runs with as much in the world as there may be; few, as the model is slow with them. */
    private static final int FULL_RUNS = 30;
    private static final int FULL_TELLING_CALLS = 300;
    private static final int FULL_CALLS = 350;
    private static final String[] NAMES = {"publish", "compare", "yank", "setPlatforms", "bring", "range",
        "join", "has", "need", "demand", "advise", "mending", "replace", "setPlatform", "solve", "chosen",
        "chosenAnew", "features", "solutions", "why", "against", "lock", "unlock", "install", "spoil",
        "onDisk", "pending"};
    /** How often each call comes while the world is told, and afterwards. */
    private static final int[] TELLING = {20, 1, 1, 1, 5, 14, 3, 3, 30, 8, 1, 1, 1, 1, 3, 2,
        1, 1, 1, 1, 1, 1, 1, 1, 1, 1, 1};
    private static final int[] GENTLE_TELLING = {24, 1, 0, 0, 5, 9, 2, 2, 45, 3, 0, 1, 0, 0, 3, 2,
        1, 1, 1, 1, 1, 1, 1, 1, 1, 1, 1};
    private static final int[] GENTLE_ASKING = {1, 1, 2, 1, 2, 1, 1, 1, 3, 1, 1, 3, 2, 1, 10, 10,
        5, 10, 8, 3, 20, 9, 3, 9, 5, 6, 8};
    private static final int[] ASKING = {1, 2, 5, 3, 3, 1, 1, 3, 4, 3, 2, 3, 4, 3, 9, 6,
        3, 6, 4, 6, 12, 7, 4, 7, 5, 5, 5};

    private static final int[] FULL_TELLING = {40, 0, 0, 0, 12, 14, 3, 0, 140, 7, 1, 0, 1, 0, 0, 0,
        0, 0, 0, 0, 0, 0, 0, 0, 0, 0, 0};
    private static final int[] FULL_ASKING = {1, 1, 1, 1, 0, 0, 0, 1, 0, 0, 0, 2, 0, 0, 6, 14,
        4, 8, 4, 0, 24, 4, 3, 5, 3, 4, 5};

    private final Random random;
    private final Resolverium real = new Resolverium();
    private final Model model = new Model();
    private final int wrongShare;
    private final int packages;
    private final int digits;
    /** Most runs are gentle: wide ranges and few flaws, so that there are many solutions. */
    private final boolean gentle;
    private final boolean full;

    private RandomRunsTest(long seed, boolean isFull) {
        random = new Random(seed);
        full = isFull;
        wrongShare = !full && random.nextInt(3) == 0 ? 12 : 150;
        packages = full ? 6 : 2 + random.nextInt(5);
        digits = 2 + random.nextInt(3);
        gentle = full || random.nextInt(4) != 0;
    }

    public static void main(String[] args) {
        for (int run = 0; run < RUNS + FULL_RUNS; run++) {
            String wrong = new RandomRunsTest(run, run >= RUNS).firstWrongCall();
            if (wrong != null) {
                System.out.println("random run " + run + ": " + wrong);
                System.exit(1);
            }
        }
        System.out.println(RUNS + FULL_RUNS + " random runs answered as the model does");
    }

    private String firstWrongCall() {
        int telling = full ? FULL_TELLING_CALLS : 40 + random.nextInt(60);
        int calls = full ? FULL_CALLS : Calls.MOST / 2;
        for (int call = 0; call < calls; call++) {
            int method = pick(weights(call < telling));
            int[] a = call == 0 && gentle ? new int[] {Resolverium.ALL, 0, 0, 0, 0} : arguments(method);
            method = call == 0 && gentle ? 5 : method;
            String due = onModel(method, a);
            String got = Calls.answer(real, NAMES[method], a);
            if (!got.equals(due)) {
                return "call " + call + ", " + NAMES[method] + Arrays.toString(a) + " answered " + got
                        + ", due is " + due;
            }
        }
        return null;
    }

    private int[] weights(boolean telling) {
        if (full) {
            return telling ? FULL_TELLING : FULL_ASKING;
        }
        if (gentle) {
            return telling ? GENTLE_TELLING : GENTLE_ASKING;
        }
        return telling ? TELLING : ASKING;
    }

    private int pick(int[] weights) {
        int left = random.nextInt(Arrays.stream(weights).sum());
        int method = 0;
        while (left >= weights[method]) {
            left -= weights[method];
            method++;
        }
        return method;
    }

    /** A number up to a last one, rarely one beside it. */
    private int upTo(int last) {
        if (random.nextInt(wrongShare) == 0) {
            int[] beside = {-1, -2, last + 1, Integer.MIN_VALUE, Integer.MAX_VALUE};
            return beside[random.nextInt(beside.length)];
        }
        return last < 0 ? 0 : random.nextInt(last + 1);
    }

    private int at() {
        return random.nextInt(20) == 0 ? upTo(5) : upTo(packages - 1);
    }

    private int pick(int usual, int other, int share) {
        return random.nextInt(share) == 0 ? other : usual;
    }

    private int digit() {
        return random.nextInt(40) == 0 ? upTo(9) : upTo(digits - 1);
    }

    private int pre() {
        return random.nextInt(gentle ? 8 : 3) == 0 ? upTo(3) : 0;
    }

    private int version() {
        return upTo(model.versions.size() - 1);
    }

    private int aRange() {
        if (gentle && random.nextInt(3) != 0) {
            return 0;
        }
        return upTo(model.ranges.size() - 1);
    }

    private int[] rangeArguments() {
        int kind = upTo(7);
        if (gentle && random.nextInt(2) == 0 && !model.versions.isEmpty()) {
            Model.Version v = model.versions.get(random.nextInt(model.versions.size()));
            int[] kinds = {Resolverium.EXACT, Resolverium.AT_LEAST, Resolverium.CARET, Resolverium.TILDE};
            return new int[] {kinds[random.nextInt(4)], v.first, v.second, v.third, v.pre};
        }
        boolean strict = random.nextInt(10) != 0;
        boolean all = kind == Resolverium.ALL && strict;
        boolean minor = kind == Resolverium.WILD_MINOR && strict;
        boolean patch = kind == Resolverium.WILD_PATCH && strict;
        return new int[] {kind, all ? 0 : digit(), all || minor ? 0 : digit(),
            all || minor || patch ? 0 : digit(), all || minor || patch ? 0 : pre()};
    }

    private int[] arguments(int method) {
        switch (NAMES[method]) {
            case "publish":
                return new int[] {at(), digit(), digit(), digit(), pre(),
                    random.nextInt(4) == 0 ? upTo(1) : 0};
            case "compare": return new int[] {version(), version()};
            case "setPlatforms":
                return new int[] {version(), pick(upTo(7), 7, gentle ? 2 : 3)};
            case "bring": return new int[] {version(), upTo(2), upTo(2)};
            case "range": return rangeArguments();
            case "join": return new int[] {random.nextInt(15) == 0 ? upTo(10) : 8 + upTo(1), aRange(), aRange()};
            case "has": return new int[] {aRange(), version()};
            case "need":
                return new int[] {version(), at(), aRange(), pick(upTo(2), upTo(1), 2),
                    pick(upTo(2), -1, 2), pick(7, upTo(7), 3), upTo(7)};
            case "demand": return new int[] {upTo(2), at(), aRange(), upTo(7)};
            case "advise": return new int[] {at(), upTo(model.ranges.size() - 1)};
            case "replace": return new int[] {at(), random.nextInt(gentle ? 4 : 2) == 0 ? at() : -1};
            case "setPlatform": return new int[] {upTo(2)};
            case "solve": return new int[] {pick(upTo(7), 7, gentle ? 2 : 9), pick(upTo(63), 0, 2)};
            case "install": return new int[] {random.nextInt(3) == 0 ? upTo(11) : 1 + upTo(3)};
            case "chosen", "chosenAnew", "features", "unlock", "spoil", "onDisk": return new int[] {at()};
            case "yank", "mending", "against": return new int[] {version()};
            default: return new int[0];
        }
    }

    private String onModel(int method, int[] a) {
        try {
            return String.valueOf(modelAnswer(method, a));
        } catch (RuntimeException e) {
            return e.getClass().getSimpleName();
        }
    }

    private int modelAnswer(int method, int[] a) {
        switch (NAMES[method]) {
            case "publish": return model.publish(a[0], a[1], a[2], a[3], a[4], a[5]);
            case "compare": return model.compare(a[0], a[1]);
            case "yank": return model.yank(a[0]);
            case "setPlatforms": return model.setPlatforms(a[0], a[1]);
            case "bring": return model.bring(a[0], a[1], a[2]);
            case "range": return model.range(a[0], a[1], a[2], a[3], a[4]);
            case "join": return model.join(a[0], a[1], a[2]);
            case "has": return model.has(a[0], a[1]);
            case "need": return model.need(a[0], a[1], a[2], a[3], a[4], a[5], a[6]);
            case "demand": return model.demand(a[0], a[1], a[2], a[3]);
            case "advise": return model.advise(a[0], a[1]);
            case "mending": return model.mending(a[0]);
            case "replace": return model.replace(a[0], a[1]);
            case "setPlatform": return model.setPlatform(a[0]);
            case "solve": return model.solve(a[0], a[1]);
            case "chosen", "chosenAnew": return model.chosen(a[0]);
            case "features": return model.features(a[0]);
            case "solutions": return model.solutions();
            case "why": return model.why();
            case "against": return model.against(a[0]);
            case "lock": return model.lock();
            case "unlock": return model.unlock(a[0]);
            case "install": return model.install(a[0]);
            case "spoil": return model.spoil(a[0]);
            case "onDisk": return model.onDisk(a[0]);
            default: return model.pending();
        }
    }
}
