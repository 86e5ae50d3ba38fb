/** For each promise of the document: ordinary inputs, the edges that it names, and wrong inputs. */
public final class PromiseTest {
    private static final int NONE = Resolverium.NONE;
    private static final int ALWAYS = Resolverium.NONE;
    private static final int LOW = Integer.MIN_VALUE;
    private static final int HIGH = Integer.MAX_VALUE;

    private static int promise;
    private static int checks;
    private static int wrong;

    private interface Call {
        void run();
    }

    public static void main(String[] args) {
        promise1();
        promise2();
        promise3();
        promise4();
        promise5();
        promise6();
        promise7();
        promise8();
        promise9();
        promise10();
        promise11();
        promise12();
        promise13();
        promise14();
        promise15();
        promise16();
        promise17();
        promise18();
        promise19();
        promise20();
        promise21();
        promise22();
        promise23();
        promise24();
        promise25();
        promise26();
        promise27();
        promise28();
        System.out.println(checks + " checks of the promises, " + wrong + " wrong");
        if (wrong != 0) {
            System.exit(1);
        }
    }

    private static void due(String what, int got, int want) {
        checks++;
        if (got != want) {
            wrong++;
            System.out.println("promise " + promise + ": " + what + " is " + got + ", due is " + want);
        }
    }

    private static void due(String what, boolean got, boolean want) {
        due(what, got ? 1 : 0, want ? 1 : 0);
    }

    private static void throwsIt(String what, Class<? extends RuntimeException> want, Call call) {
        checks++;
        RuntimeException got = null;
        try {
            call.run();
        } catch (RuntimeException e) {
            got = e;
        }
        if (got == null || got.getClass() != want) {
            wrong++;
            System.out.println("promise " + promise + ": " + what + " throws " + got + ", due is " + want);
        }
    }

    private static void noIndex(String what, Call call) {
        throwsIt(what, IndexOutOfBoundsException.class, call);
    }

    private static void noArgument(String what, Call call) {
        throwsIt(what, IllegalArgumentException.class, call);
    }

    private static void noState(String what, Call call) {
        throwsIt(what, IllegalStateException.class, call);
    }

    /** A world with the range 0, which has all versions without a pre. */
    private static Resolverium world() {
        Resolverium x = new Resolverium();
        x.range(Resolverium.ALL, 0, 0, 0, 0);
        return x;
    }

    /** The range that has one version only. */
    private static int exact(Resolverium x, int a, int b, int c) {
        return x.range(Resolverium.EXACT, a, b, c, 0);
    }

    private static int publish(Resolverium x, int at, int first) {
        return x.publish(at, first, 0, 0, 0, 0);
    }

    /** A need that counts on each platform and asks no features. */
    private static void need(Resolverium x, int version, int target, int range, int kind, int feature) {
        x.need(version, target, range, kind, feature, 7, 0);
    }

    /** A world in which the package 0 has the versions 0 to 2, and only the demand 0 of all of it. */
    private static Resolverium threeVersions() {
        Resolverium x = world();
        publish(x, 0, 1);
        publish(x, 0, 2);
        publish(x, 0, 3);
        x.demand(0, 0, 0, 0);
        x.solve(1, 0);
        return x;
    }

    private static void promise1() {
        promise = 1;
        Resolverium x = new Resolverium();
        due("solutions", x.solutions(), 1);
        due("why", x.why(), 0);
        due("pending", x.pending(), 0);
        for (int at = 0; at < 6; at++) {
            due("chosen", x.chosen(at), NONE);
            due("chosenAnew", x.chosenAnew(at), NONE);
            due("features", x.features(at), 0);
            due("unlock", x.unlock(at), NONE);
            due("onDisk", x.onDisk(at), NONE);
        }
        noIndex("yank", () -> x.yank(0));
        noIndex("has", () -> x.has(0, 0));
        due("lock", x.lock(), 0);
        due("install", x.install(1), 0);
        Resolverium y = threeVersions();
        due("another object's chosen", x.chosen(0), NONE);
        due("chosen", y.chosen(0), 2);
        Resolverium z = world();
        publish(z, 0, 1);
        z.demand(0, 0, 0, 0);
        due("chosen before solve", z.chosen(0), NONE);
        due("solutions before solve", z.solutions(), 1);
    }

    private static void promise2() {
        promise = 2;
        Resolverium x = new Resolverium();
        due("first", x.publish(5, 9, 9, 9, 9, 1), 0);
        due("same without pre", x.publish(5, 9, 9, 9, 0, 0), 1);
        due("same of another package", x.publish(4, 9, 9, 9, 9, 1), 2);
        noState("one alike, at another place", () -> x.publish(5, 9, 9, 9, 9, 0));
        due("third", x.publish(5, 0, 0, 0, 0, 0), 3);
        due("fourth", x.publish(5, 0, 0, 0, 1, 0), 4);
        noState("a fifth one", () -> x.publish(5, 1, 0, 0, 0, 0));
        noIndex("package -1", () -> x.publish(-1, 0, 0, 0, 0, 0));
        noIndex("package 6", () -> x.publish(6, 0, 0, 0, 0, 0));
        noIndex("place -1", () -> x.publish(0, 0, 0, 0, 0, -1));
        noIndex("place 2, before the pre", () -> x.publish(0, 0, 0, 0, 10, 2));
        noArgument("first", () -> x.publish(0, 10, 0, 0, 0, 0));
        noArgument("second", () -> x.publish(0, 0, -1, 0, 0, 0));
        noArgument("third", () -> x.publish(0, 0, 0, HIGH, 0, 0));
        noArgument("pre, before the state", () -> x.publish(5, 0, 0, 0, LOW, 0));
        due("after the wrong ones", x.publish(0, 0, 0, 0, 0, 0), 5);
        for (int at = 0; at < 6; at++) {
            int p = at;
            for (int i = at == 0 || at == 4 ? 1 : at == 5 ? 4 : 0; i < 4; i++) {
                x.publish(at, 8, i, 0, 0, 0);
            }
            noState("a full package", () -> x.publish(p, 8, 8, 8, 0, 0));
        }
        due("the last one is there", x.compare(23, 22), 1);
        noIndex("there are 24", () -> x.yank(24));
    }

    private static void promise3() {
        promise = 3;
        Resolverium x = new Resolverium();
        x.publish(0, 1, 2, 3, 0, 0);
        x.publish(0, 1, 2, 3, 9, 0);
        x.publish(0, 1, 2, 3, 8, 0);
        x.publish(0, 1, 2, 4, 1, 0);
        x.publish(1, 1, 9, 9, 0, 0);
        x.publish(1, 2, 0, 0, 0, 0);
        x.publish(1, 1, 8, 9, 0, 0);
        due("itself", x.compare(0, 0), 0);
        due("without a pre is greater", x.compare(0, 1), 1);
        due("lesser", x.compare(1, 0), -1);
        due("the greater pre", x.compare(1, 2), 1);
        due("the third number before the pre", x.compare(3, 0), 1);
        due("the first number", x.compare(4, 5), -1);
        due("the second number", x.compare(6, 4), -1);
        noArgument("unlike packages", () -> x.compare(0, 4));
        noIndex("-1", () -> x.compare(-1, 0));
        noIndex("7", () -> x.compare(0, 7));
    }

    private static void promise4() {
        promise = 4;
        Resolverium x = threeVersions();
        due("yank", x.yank(2), true);
        due("chosen", x.chosen(0), 1);
        due("against", x.against(2), Resolverium.YANKED);
        due("taken back", x.yank(2), false);
        due("chosen then", x.chosen(0), 2);
        x.lock();
        x.yank(2);
        due("in the lock", x.chosen(0), 2);
        due("solve with the package updated", x.solve(1, 1), 1);
        due("in the lock, updated", x.chosen(0), 2);
        x.unlock(0);
        due("out of the lock", x.chosen(0), 1);
        noIndex("-1", () -> x.yank(-1));
        noIndex("3", () -> x.yank(3));
    }

    private static void promise5() {
        promise = 5;
        Resolverium x = threeVersions();
        due("all at first", x.setPlatforms(2, 5), 7);
        due("chosen on 0", x.chosen(0), 2);
        x.setPlatform(1);
        due("chosen on 1", x.chosen(0), 1);
        due("against", x.against(2), Resolverium.FOREIGN);
        due("those before", x.setPlatforms(2, 2), 5);
        due("chosen", x.chosen(0), 2);
        due("none at all", x.setPlatforms(2, 0), 2);
        due("against none at all", x.against(2), Resolverium.FOREIGN);
        noArgument("8", () -> x.setPlatforms(2, 8));
        noArgument("-1", () -> x.setPlatforms(2, -1));
        noIndex("version 3, before the platforms", () -> x.setPlatforms(3, 8));
        noIndex("version -1", () -> x.setPlatforms(-1, 7));
        due("unchanged", x.setPlatforms(2, 7), 0);
    }

    private static void promise6() {
        promise = 6;
        Resolverium x = world();
        publish(x, 0, 1);
        publish(x, 1, 1);
        need(x, 0, 1, 0, Resolverium.NORMAL, 2);
        x.demand(0, 0, 0, 1);
        due("solve", x.solve(1, 0), 1);
        due("bring 1, 2", x.bring(0, 1, 2), true);
        due("nothing asks for 1", x.features(0), 1);
        due("bring 0, 1", x.bring(0, 0, 1), true);
        due("bring again", x.bring(0, 0, 1), false);
        due("one brings another one", x.features(0), 7);
        due("and the need counts", x.chosen(1), 1);
        due("another version brings nothing", x.bring(1, 0, 1), true);
        due("itself", x.bring(1, 0, 0), true);
        due("itself again", x.bring(1, 0, 0), false);
        noIndex("version", () -> x.bring(2, 0, 0));
        noIndex("version -1", () -> x.bring(-1, 0, 0));
        noIndex("feature 3", () -> x.bring(0, 3, 0));
        noIndex("feature -1", () -> x.bring(0, -1, 0));
        noIndex("other 3", () -> x.bring(0, 0, 3));
        noIndex("other -1", () -> x.bring(0, 0, -1));
    }

    private static void promise7() {
        promise = 7;
        Resolverium x = new Resolverium();
        for (int kind = 0; kind <= 7; kind++) {
            due("a range of each kind", x.range(kind, 0, 0, 0, 0), kind);
        }
        noIndex("kind BOTH", () -> x.range(Resolverium.BOTH, 0, 0, 0, 0));
        noIndex("kind -1, before the numbers", () -> x.range(-1, 10, 0, 0, 0));
        int[] whole = {Resolverium.EXACT, Resolverium.AT_LEAST, Resolverium.BELOW, Resolverium.CARET,
            Resolverium.TILDE};
        for (int kind : whole) {
            noArgument("a", () -> x.range(kind, 10, 0, 0, 0));
            noArgument("b", () -> x.range(kind, 0, -1, 0, 0));
            noArgument("c", () -> x.range(kind, 0, 0, 10, 0));
            noArgument("pre", () -> x.range(kind, 0, 0, 0, 10));
        }
        noArgument("a of ALL", () -> x.range(Resolverium.ALL, 1, 0, 0, 0));
        noArgument("b of ALL", () -> x.range(Resolverium.ALL, 0, 1, 0, 0));
        noArgument("c of ALL", () -> x.range(Resolverium.ALL, 0, 0, 1, 0));
        noArgument("pre of ALL", () -> x.range(Resolverium.ALL, 0, 0, 0, 1));
        noArgument("b of WILD_MINOR", () -> x.range(Resolverium.WILD_MINOR, 9, 1, 0, 0));
        noArgument("pre of WILD_MINOR", () -> x.range(Resolverium.WILD_MINOR, 9, 0, 0, 1));
        noArgument("c of WILD_PATCH", () -> x.range(Resolverium.WILD_PATCH, 9, 9, 1, 0));
        noArgument("pre of WILD_PATCH", () -> x.range(Resolverium.WILD_PATCH, 9, 9, 0, 1));
        due("the edges", x.range(Resolverium.WILD_PATCH, 9, 9, 0, 0), 8);
        due("the edges", x.range(Resolverium.CARET, 9, 9, 9, 9), 9);
        for (int range = 10; range < 30; range++) {
            due("up to 30", x.range(Resolverium.EXACT, 1, 1, 1, 1), range);
        }
        noState("a 31st one", () -> x.range(Resolverium.ALL, 0, 0, 0, 0));
        noArgument("the numbers first", () -> x.range(Resolverium.ALL, 0, 0, 0, 1));
    }

    private static void promise8() {
        promise = 8;
        Resolverium x = new Resolverium();
        x.publish(0, 1, 0, 0, 0, 0);
        x.publish(0, 2, 0, 0, 0, 0);
        x.range(Resolverium.AT_LEAST, 1, 0, 0, 0);
        x.range(Resolverium.BELOW, 2, 0, 0, 0);
        x.range(Resolverium.EXACT, 3, 0, 0, 0);
        due("BOTH", x.join(Resolverium.BOTH, 0, 1), 3);
        due("EITHER", x.join(Resolverium.EITHER, 1, 2), 4);
        due("both have 1.0.0", x.has(3, 0), true);
        due("one does not have 2.0.0", x.has(3, 1), false);
        due("one has 1.0.0", x.has(4, 0), true);
        due("none has 2.0.0", x.has(4, 1), false);
        x.publish(0, 3, 0, 0, 0, 0);
        x.publish(0, 0, 9, 9, 0, 0);
        due("one has the later 3.0.0", x.has(4, 2), true);
        due("not both have the later 3.0.0", x.has(3, 2), false);
        due("one has the later 0.9.9", x.has(4, 3), true);
        due("with itself", x.join(Resolverium.BOTH, 4, 4), 5);
        due("a joined one", x.has(5, 3), true);
        noIndex("kind WILD_PATCH", () -> x.join(Resolverium.WILD_PATCH, 0, 1));
        noIndex("kind 10", () -> x.join(10, 0, 1));
        noIndex("first", () -> x.join(Resolverium.BOTH, -1, 1));
        noIndex("itself as the other one", () -> x.join(Resolverium.BOTH, 0, 6));
        for (int range = 6; range < 30; range++) {
            due("up to 30", x.join(Resolverium.EITHER, range - 1, range - 1), range);
        }
        due("many deep", x.has(29, 3), true);
        due("many deep", x.has(29, 1), false);
        x.publish(1, 1, 5, 0, 0, 0);
        due("many deep, of a later version", x.has(29, 4), true);
        noState("a 31st one", () -> x.join(Resolverium.BOTH, 0, 0));
        noIndex("the range first", () -> x.join(Resolverium.BOTH, 0, 30));
    }

    /** Whether a range has a version, published after it and before it. */
    private static void in(int[] range, int[] v, boolean want) {
        Resolverium x = new Resolverium();
        x.range(range[0], range[1], range[2], range[3], range[4]);
        x.publish(2, v[0], v[1], v[2], v[3], 0);
        x.range(range[0], range[1], range[2], range[3], range[4]);
        String what = java.util.Arrays.toString(range) + " has " + java.util.Arrays.toString(v);
        due(what, x.has(0, 0), want);
        due(what + " (already there)", x.has(1, 0), want);
    }

    private static int[] of(int... numbers) {
        return numbers;
    }

    private static void promise9() {
        promise = 9;
        in(of(Resolverium.EXACT, 1, 2, 3, 0), of(1, 2, 3, 0), true);
        in(of(Resolverium.EXACT, 1, 2, 3, 0), of(1, 2, 3, 1), false);
        in(of(Resolverium.EXACT, 1, 2, 3, 1), of(1, 2, 3, 1), true);
        in(of(Resolverium.EXACT, 1, 2, 3, 9), of(1, 2, 3, 0), false);
        in(of(Resolverium.EXACT, 1, 2, 3, 1), of(1, 2, 3, 2), false);
        in(of(Resolverium.AT_LEAST, 1, 2, 3, 0), of(1, 2, 3, 0), true);
        in(of(Resolverium.AT_LEAST, 1, 2, 3, 0), of(1, 2, 2, 0), false);
        in(of(Resolverium.AT_LEAST, 1, 2, 3, 0), of(9, 0, 0, 0), true);
        in(of(Resolverium.AT_LEAST, 1, 2, 3, 0), of(9, 0, 0, 1), false);
        in(of(Resolverium.AT_LEAST, 1, 2, 3, 2), of(1, 2, 3, 2), true);
        in(of(Resolverium.AT_LEAST, 1, 2, 3, 2), of(1, 2, 3, 9), true);
        in(of(Resolverium.AT_LEAST, 1, 2, 3, 2), of(1, 2, 3, 1), false);
        in(of(Resolverium.AT_LEAST, 1, 2, 3, 2), of(1, 2, 4, 2), false);
        in(of(Resolverium.AT_LEAST, 1, 2, 3, 2), of(1, 2, 4, 0), true);
        in(of(Resolverium.BELOW, 1, 2, 3, 0), of(1, 2, 2, 0), true);
        in(of(Resolverium.BELOW, 1, 2, 3, 0), of(1, 2, 3, 0), false);
        in(of(Resolverium.BELOW, 1, 2, 3, 0), of(1, 2, 3, 1), false);
        in(of(Resolverium.BELOW, 1, 2, 3, 2), of(1, 2, 3, 1), true);
        in(of(Resolverium.BELOW, 1, 2, 3, 2), of(1, 2, 3, 2), false);
        in(of(Resolverium.BELOW, 1, 2, 3, 2), of(1, 2, 2, 1), false);
        in(of(Resolverium.BELOW, 0, 0, 0, 0), of(0, 0, 0, 0), false);
        in(of(Resolverium.ALL, 0, 0, 0, 0), of(9, 9, 9, 0), true);
        in(of(Resolverium.ALL, 0, 0, 0, 0), of(0, 0, 0, 0), true);
        in(of(Resolverium.ALL, 0, 0, 0, 0), of(0, 0, 0, 1), false);
        caretsAndTildes();
        in(of(Resolverium.WILD_MINOR, 1, 0, 0, 0), of(1, 0, 0, 0), true);
        in(of(Resolverium.WILD_MINOR, 1, 0, 0, 0), of(1, 9, 9, 0), true);
        in(of(Resolverium.WILD_MINOR, 1, 0, 0, 0), of(1, 0, 0, 1), false);
        in(of(Resolverium.WILD_MINOR, 1, 0, 0, 0), of(2, 0, 0, 0), false);
        in(of(Resolverium.WILD_MINOR, 1, 0, 0, 0), of(0, 9, 9, 0), false);
        in(of(Resolverium.WILD_MINOR, 9, 0, 0, 0), of(9, 9, 9, 0), true);
        in(of(Resolverium.WILD_PATCH, 1, 9, 0, 0), of(1, 9, 9, 0), true);
        in(of(Resolverium.WILD_PATCH, 1, 9, 0, 0), of(2, 0, 0, 0), false);
        in(of(Resolverium.WILD_PATCH, 1, 2, 0, 0), of(1, 1, 9, 0), false);
        in(of(Resolverium.WILD_PATCH, 1, 2, 0, 0), of(1, 3, 0, 0), false);
        in(of(Resolverium.WILD_PATCH, 1, 2, 0, 0), of(1, 2, 0, 1), false);
        preOfJoined();
        Resolverium x = world();
        publish(x, 0, 1);
        noIndex("range", () -> x.has(1, 0));
        noIndex("range -1", () -> x.has(-1, 0));
        noIndex("version", () -> x.has(0, 1));
        noIndex("version -1", () -> x.has(0, -1));
    }

    private static void caretsAndTildes() {
        in(of(Resolverium.CARET, 1, 2, 3, 0), of(1, 2, 3, 0), true);
        in(of(Resolverium.CARET, 1, 2, 3, 0), of(1, 9, 0, 0), true);
        in(of(Resolverium.CARET, 1, 2, 3, 0), of(1, 2, 2, 0), false);
        in(of(Resolverium.CARET, 1, 2, 3, 0), of(2, 0, 0, 0), false);
        in(of(Resolverium.CARET, 1, 2, 3, 4), of(1, 2, 3, 5), true);
        in(of(Resolverium.CARET, 1, 2, 3, 4), of(1, 2, 3, 3), false);
        in(of(Resolverium.CARET, 1, 2, 3, 4), of(1, 2, 4, 5), false);
        in(of(Resolverium.CARET, 9, 2, 3, 0), of(9, 9, 9, 0), true);
        in(of(Resolverium.CARET, 0, 2, 3, 0), of(0, 2, 9, 0), true);
        in(of(Resolverium.CARET, 0, 2, 3, 0), of(0, 3, 0, 0), false);
        in(of(Resolverium.CARET, 0, 9, 0, 0), of(1, 0, 0, 0), false);
        in(of(Resolverium.CARET, 0, 0, 3, 0), of(0, 0, 3, 0), true);
        in(of(Resolverium.CARET, 0, 0, 3, 0), of(0, 0, 4, 0), false);
        in(of(Resolverium.CARET, 0, 0, 0, 0), of(0, 0, 0, 0), true);
        in(of(Resolverium.CARET, 0, 0, 0, 0), of(0, 0, 1, 0), false);
        in(of(Resolverium.CARET, 0, 0, 9, 0), of(0, 1, 0, 0), false);
        in(of(Resolverium.CARET, 0, 0, 9, 3), of(0, 0, 9, 0), true);
        in(of(Resolverium.TILDE, 1, 2, 3, 0), of(1, 2, 9, 0), true);
        in(of(Resolverium.TILDE, 1, 2, 3, 0), of(1, 2, 2, 0), false);
        in(of(Resolverium.TILDE, 1, 2, 3, 0), of(1, 3, 0, 0), false);
        in(of(Resolverium.TILDE, 1, 9, 3, 0), of(1, 9, 9, 0), true);
        in(of(Resolverium.TILDE, 1, 9, 3, 0), of(2, 0, 0, 0), false);
        in(of(Resolverium.TILDE, 0, 0, 0, 1), of(0, 0, 0, 2), true);
        in(of(Resolverium.TILDE, 0, 0, 0, 1), of(0, 0, 9, 0), true);
        in(of(Resolverium.TILDE, 0, 0, 0, 2), of(0, 0, 0, 1), false);
    }

    /** A joined range has no version of its own: each part lets in a pre, or does not. */
    private static void preOfJoined() {
        Resolverium x = world();
        x.publish(0, 1, 0, 0, 3, 0);
        x.range(Resolverium.AT_LEAST, 1, 0, 0, 1);
        x.range(Resolverium.BELOW, 1, 0, 0, 4);
        due("one lets in the pre", x.has(x.join(Resolverium.EITHER, 0, 1), 0), true);
        due("not both let in the pre", x.has(x.join(Resolverium.BOTH, 0, 1), 0), false);
        due("both let in the pre", x.has(x.join(Resolverium.BOTH, 1, 2), 0), true);
    }

    private static void promise10() {
        promise = 10;
        Resolverium x = world();
        publish(x, 0, 1);
        publish(x, 1, 1);
        publish(x, 2, 1);
        x.demand(0, 0, 0, 0);
        x.solve(1, 0);
        due("the first one", x.need(0, 1, 0, Resolverium.NORMAL, ALWAYS, 6, 0), 1);
        due("on other platforms only", x.chosen(1), NONE);
        due("the second one", x.need(0, 1, 0, Resolverium.NORMAL, 2, 7, 0), 2);
        due("for a feature only", x.chosen(1), NONE);
        due("the third one", x.need(0, 1, 0, Resolverium.NORMAL, ALWAYS, 1, 5), 3);
        due("on the platform of now", x.chosen(1), 1);
        due("the features that it asks", x.features(1), 5);
        due("of no package itself", x.need(0, 2, 0, Resolverium.PEER, 0, 7, 0), 4);
        due("up to 5", x.need(0, 0, 0, Resolverium.OPTIONAL, ALWAYS, 0, 7), 5);
        noState("a sixth one", () -> x.need(0, 1, 0, 0, ALWAYS, 7, 0));
        due("of another version", x.need(1, 1, 0, 0, 0, 7, 0), 1);
        noArgument("platforms, before the state", () -> x.need(0, 1, 0, 0, ALWAYS, 8, 0));
        noArgument("platforms -1", () -> x.need(1, 1, 0, 0, ALWAYS, -1, 0));
        noArgument("features 8", () -> x.need(1, 1, 0, 0, ALWAYS, 7, 8));
        noArgument("features -1", () -> x.need(1, 1, 0, 0, ALWAYS, 7, -1));
        noIndex("version, before the features", () -> x.need(3, 1, 0, 0, ALWAYS, 7, 8));
        noIndex("version -1", () -> x.need(-1, 1, 0, 0, ALWAYS, 7, 0));
        noIndex("package 6", () -> x.need(1, 6, 0, 0, ALWAYS, 7, 0));
        noIndex("package -1", () -> x.need(1, -1, 0, 0, ALWAYS, 7, 0));
        noIndex("range 1", () -> x.need(1, 1, 1, 0, ALWAYS, 7, 0));
        noIndex("range -1", () -> x.need(1, 1, -1, 0, ALWAYS, 7, 0));
        noIndex("kind 3", () -> x.need(1, 1, 0, 3, ALWAYS, 7, 0));
        noIndex("kind -1", () -> x.need(1, 1, 0, -1, ALWAYS, 7, 0));
        noIndex("feature 3", () -> x.need(1, 1, 0, 0, 3, 7, 0));
        noIndex("feature -2", () -> x.need(1, 1, 0, 0, -2, 7, 0));
        due("after the wrong ones", x.need(1, 1, 0, 0, 2, 0, 0), 2);
    }

    private static void promise11() {
        promise = 11;
        Resolverium x = world();
        publish(x, 0, 1);
        publish(x, 5, 1);
        due("the first one", x.demand(2, 0, 0, 1), 0);
        due("solve for another workspace", x.solve(3, 0), 0);
        due("solve for its workspace", x.solve(4, 0), 1);
        due("the second one", x.demand(2, 5, 0, 0), 1);
        due("counts at once", x.chosen(5), 1);
        due("the third one", x.demand(2, 0, 0, 6), 2);
        due("features of two demands", x.features(0), 7);
        noIndex("workspace 3, before the features", () -> x.demand(3, 0, 0, 8));
        noIndex("workspace -1", () -> x.demand(-1, 0, 0, 0));
        noIndex("package 6", () -> x.demand(0, 6, 0, 0));
        noIndex("package -1", () -> x.demand(0, -1, 0, 0));
        noIndex("range 1", () -> x.demand(0, 0, 1, 0));
        noIndex("range -1", () -> x.demand(0, 0, -1, 0));
        noArgument("features 8", () -> x.demand(0, 0, 0, 8));
        noArgument("features -1", () -> x.demand(0, 0, 0, -1));
        for (int demand = 3; demand < 6; demand++) {
            due("up to 6", x.demand(0, 0, 0, 0), demand);
        }
        noState("a seventh one", () -> x.demand(0, 0, 0, 0));
        noArgument("features, before the state", () -> x.demand(0, 0, 0, 8));
    }

    private static void promise12() {
        promise = 12;
        Resolverium x = threeVersions();
        publish(x, 1, 3);
        int three = exact(x, 3, 0, 0);
        due("the first one", x.advise(0, three), 1);
        due("against", x.against(2), Resolverium.BAD);
        due("chosen", x.chosen(0), 1);
        x.demand(0, 1, three, 0);
        due("another package", x.chosen(1), 3);
        due("the same again", x.advise(0, three), 2);
        noIndex("package 6", () -> x.advise(6, 0));
        noIndex("package -1", () -> x.advise(-1, 0));
        noIndex("range 2", () -> x.advise(0, 2));
        noIndex("range -1", () -> x.advise(0, -1));
        for (int count = 3; count <= 8; count++) {
            due("up to 8", x.advise(5, 0), count);
        }
        noState("a ninth one", () -> x.advise(0, 0));
        noIndex("the package first", () -> x.advise(6, 0));
        x.replace(0, 1);
        due("by the package itself", x.against(3), Resolverium.FINE);
    }

    private static void promise13() {
        promise = 13;
        Resolverium x = world();
        x.publish(0, 1, 0, 0, 0, 0);
        x.publish(0, 3, 0, 0, 0, 0);
        x.publish(0, 2, 0, 0, 1, 0);
        x.publish(0, 2, 0, 0, 0, 0);
        x.publish(1, 2, 0, 0, 0, 0);
        due("the least one that is greater", x.mending(0), 2);
        due("without a pre is greater", x.mending(2), 3);
        due("none is greater", x.mending(1), NONE);
        due("not of another package", x.mending(4), NONE);
        x.yank(2);
        due("a yanked one is not", x.mending(0), 3);
        x.setPlatforms(3, 4);
        due("a foreign one is not", x.mending(0), 1);
        x.setPlatform(2);
        due("on the platform of now", x.mending(0), 3);
        x.advise(0, x.range(Resolverium.TILDE, 2, 0, 0, 0));
        due("a bad one is not", x.mending(0), 1);
        Resolverium y = world();
        y.publish(0, 1, 0, 0, 0, 1);
        y.publish(0, 2, 0, 0, 0, 1);
        due("none at the place 0", y.mending(0), 1);
        y.publish(0, 3, 0, 0, 0, 0);
        due("a hidden one is not", y.mending(0), 2);
        y.yank(2);
        due("nothing that can be used", y.mending(0), NONE);
        noIndex("5", () -> x.mending(5));
        noIndex("-1", () -> x.mending(-1));
    }

    private static void promise14() {
        promise = 14;
        Resolverium x = world();
        publish(x, 0, 1);
        publish(x, 1, 1);
        publish(x, 2, 1);
        publish(x, 3, 1);
        need(x, 0, 1, 0, Resolverium.NORMAL, ALWAYS);
        x.demand(0, 0, 0, 0);
        x.solve(1, 0);
        due("nothing before", x.replace(1, 2), NONE);
        due("the need is of the other one", x.chosen(2), 2);
        due("and of it no more", x.chosen(1), NONE);
        due("nothing before", x.replace(2, 3), NONE);
        due("over another one", x.chosen(3), 3);
        due("against the one between", x.against(2), Resolverium.IMPOSSIBLE);
        noState("by itself over others", () -> x.replace(3, 1));
        noState("by itself", () -> x.replace(4, 4));
        noState("by itself, though replaced", () -> x.replace(1, 1));
        due("in place of that before", x.replace(1, 3), 2);
        due("no longer over that", x.replace(3, 1 + 4), NONE);
        due("nothing to have", x.solutions(), 0);
        due("no more", x.replace(3, NONE), 5);
        due("no more", x.replace(1, NONE), 3);
        due("the need is of it again", x.chosen(1), 1);
        due("a demand, too", x.replace(0, 2), NONE);
        due("is of the last one", x.chosen(3), 3);
        due("and of it no more", x.chosen(0), NONE);
        noIndex("6", () -> x.replace(6, 0));
        noIndex("-1", () -> x.replace(-1, 0));
        noIndex("other 6", () -> x.replace(0, 6));
        noIndex("other -2", () -> x.replace(0, -2));
        due("a chain through all", x.replace(3, 4), NONE);
        due("a chain through all", x.replace(4, 5), NONE);
        due("a chain through all", x.replace(1, 0), NONE);
        noState("round all", () -> x.replace(5, 1));
    }

    private static void promise15() {
        promise = 15;
        Resolverium x = threeVersions();
        x.setPlatforms(2, 1);
        x.setPlatforms(1, 2);
        due("chosen", x.chosen(0), 2);
        due("0 at first", x.setPlatform(1), 0);
        due("chosen", x.chosen(0), 1);
        due("that before", x.setPlatform(2), 1);
        due("chosen", x.chosen(0), 0);
        noIndex("3", () -> x.setPlatform(3));
        noIndex("-1", () -> x.setPlatform(-1));
        due("unchanged", x.setPlatform(2), 2);
    }

    private static void promise16() {
        promise = 16;
        Resolverium x = threeVersions();
        publish(x, 1, 1);
        need(x, 2, 1, 0, Resolverium.NORMAL, ALWAYS);
        due("for the workspace", x.solve(1, 0), 2);
        due("for others", x.solve(6, 0), 0);
        due("for none", x.solve(0, 0), 0);
        x.solve(1, 0);
        noArgument("workspaces 8", () -> x.solve(8, 0));
        noArgument("workspaces -1", () -> x.solve(-1, 0));
        noArgument("updated 64", () -> x.solve(0, 64));
        noArgument("updated -1", () -> x.solve(0, -1));
        due("unchanged by the wrong ones", x.chosen(0), 2);
        x.demand(2, 0, exact(x, 7, 0, 0), 0);
        due("no solution", x.solve(5, 63), NONE);
        due("all sets", x.solve(7, 63), NONE);
        due("chosen without a solution", x.chosen(0), NONE);
        due("without that workspace", x.solve(3, 63), 2);
    }

    private static void promise17() {
        promise = 17;
        bestByLocks();
        needsOfAllKinds();
        featuresAndPulls();
        longChains();
        Resolverium x = world();
        noIndex("6", () -> x.chosen(6));
        noIndex("-1", () -> x.chosen(-1));
    }

    private static void bestByLocks() {
        Resolverium x = threeVersions();
        due("the greatest", x.chosen(0), 2);
        x.lock();
        publish(x, 0, 4);
        due("the one in the lock", x.chosen(0), 2);
        x.solve(1, 2);
        due("another one updated", x.chosen(0), 2);
        x.solve(1, 1);
        due("updated", x.chosen(0), 3);
        Resolverium y = world();
        publish(y, 0, 1);
        publish(y, 1, 1);
        publish(y, 2, 1);
        int one = exact(y, 1, 0, 0);
        int two = exact(y, 2, 0, 0);
        for (int at = 0; at < 3; at++) {
            y.demand(0, at, 0, 0);
        }
        y.solve(1, 0);
        y.lock();
        publish(y, 0, 2);
        publish(y, 1, 2);
        publish(y, 2, 2);
        y.need(0, 1, two, Resolverium.NORMAL, ALWAYS, 7, 0);
        y.need(0, 2, two, Resolverium.NORMAL, ALWAYS, 7, 0);
        due("fewer changes before the lower package", y.chosen(0), 3);
        due("the others as locked", y.chosen(1) * 10 + y.chosen(2), 12);
        y.need(3, 1, two, Resolverium.NORMAL, ALWAYS, 7, 0);
        due("as few with the lower package locked", y.chosen(0), 0);
        y.solve(1, 2);
        due("an updated one is no change", y.chosen(0), 0);
        due("and is the greatest", y.chosen(1), 4);
        y.need(3, 2, one, Resolverium.NORMAL, ALWAYS, 7, 0);
        y.need(4, 2, one, Resolverium.NORMAL, ALWAYS, 7, 0);
        y.solve(1, 4);
        due("both changes are two", y.chosen(0), 3);
    }

    private static void needsOfAllKinds() {
        Resolverium x = world();
        publish(x, 0, 1);
        publish(x, 1, 1);
        publish(x, 1, 2);
        publish(x, 2, 1);
        int one = exact(x, 1, 0, 0);
        x.demand(0, 0, 0, 0);
        x.solve(1, 0);
        due("nothing pulls", x.chosen(1), NONE);
        need(x, 0, 1, one, Resolverium.OPTIONAL, ALWAYS);
        due("OPTIONAL pulls, in its range", x.chosen(1), 1);
        x.yank(1);
        due("OPTIONAL may be none", x.chosen(1), NONE);
        due("and is solved", x.chosen(0), 0);
        x.yank(1);
        need(x, 0, 2, 0, Resolverium.PEER, ALWAYS);
        due("PEER does not pull", x.solutions(), 0);
        due("nor if found anew", x.chosenAnew(2), NONE);
        need(x, 1, 2, 0, Resolverium.NORMAL, ALWAYS);
        due("something else pulls", x.chosen(2), 3);
        due("both are there", x.chosen(1), 1);
        Resolverium y = world();
        publish(y, 0, 1);
        need(y, 0, 0, exact(y, 2, 0, 0), Resolverium.OPTIONAL, ALWAYS);
        y.demand(0, 0, 0, 0);
        due("OPTIONAL of itself, out of range", y.solve(1, 0), NONE);
        Resolverium z = world();
        publish(z, 0, 1);
        publish(z, 1, 1);
        need(z, 0, 1, 0, Resolverium.NORMAL, ALWAYS);
        need(z, 1, 0, 0, Resolverium.NORMAL, ALWAYS);
        due("two that pull one another alone", z.solve(7, 0), 0);
        due("only without them", z.solutions(), 1);
    }

    private static void featuresAndPulls() {
        Resolverium x = world();
        publish(x, 0, 1);
        publish(x, 1, 1);
        publish(x, 2, 1);
        need(x, 0, 1, 0, Resolverium.NORMAL, 0);
        need(x, 1, 2, 0, Resolverium.NORMAL, ALWAYS);
        x.need(2, 0, 0, Resolverium.NORMAL, ALWAYS, 7, 1);
        x.demand(0, 0, 0, 0);
        x.solve(1, 0);
        due("with and without the round", x.solutions(), 2);
        due("its feature by one that it pulls itself", x.chosen(1), 1);
        due("and on by that", x.features(0), 1);
        Resolverium y = world();
        publish(y, 0, 1);
        publish(y, 1, 1);
        need(y, 0, 1, 0, Resolverium.NORMAL, 0);
        need(y, 0, 1, exact(y, 5, 0, 0), Resolverium.NORMAL, 1);
        y.demand(0, 0, 0, 1);
        due("the feature is on", y.solve(1, 0), 2);
        y.demand(0, 0, 0, 2);
        due("and one that cannot be", y.solve(1, 0), NONE);
    }

    /** Each package pulls the one before it, and asks that for the features that are on. */
    private static void longChains() {
        Resolverium x = world();
        for (int at = 0; at < 6; at++) {
            publish(x, at, 1);
            x.bring(at, 0, 1);
            x.bring(at, 1, 2);
            if (at > 0) {
                x.need(at, at - 1, 0, Resolverium.NORMAL, 2, 7, 1);
            }
        }
        x.demand(0, 5, 0, 0);
        due("no feature is on", x.solve(1, 0), 1);
        x.demand(0, 5, 0, 1);
        due("all by one feature", x.solve(1, 0), 6);
        due("the last one's features", x.features(0), 7);
        due("the same anew", x.chosenAnew(0), 0);
    }

    private static void promise18() {
        promise = 18;
        Resolverium x = threeVersions();
        publish(x, 1, 1);
        publish(x, 5, 1);
        need(x, 2, 5, 0, Resolverium.NORMAL, ALWAYS);
        need(x, 2, 1, 0, Resolverium.OPTIONAL, ALWAYS);
        due("before solve", x.solve(0, 0), 0);
        due("none", x.chosenAnew(0), NONE);
        x.solve(1, 0);
        for (int at = 0; at < 6; at++) {
            due("the same", x.chosenAnew(at), x.chosen(at));
        }
        due("package 0", x.chosenAnew(0), 2);
        due("package 1", x.chosenAnew(1), 3);
        due("package 5", x.chosenAnew(5), 4);
        x.yank(2);
        x.lock();
        x.yank(2);
        due("the lock", x.chosenAnew(0), 1);
        x.solve(1, 1);
        due("updated", x.chosenAnew(0), 2);
        x.demand(0, 0, exact(x, 5, 5, 5), 0);
        due("no solution", x.chosenAnew(0), NONE);
        noIndex("6", () -> x.chosenAnew(6));
        noIndex("-1", () -> x.chosenAnew(-1));
    }

    private static void promise19() {
        promise = 19;
        Resolverium x = world();
        publish(x, 0, 1);
        publish(x, 1, 1);
        x.need(0, 1, 0, Resolverium.PEER, ALWAYS, 7, 2);
        x.need(0, 2, 0, Resolverium.OPTIONAL, ALWAYS, 7, 7);
        x.demand(0, 0, 0, 0);
        x.demand(1, 1, 0, 4);
        x.solve(3, 0);
        due("none asked", x.features(0), 0);
        due("by a demand and a PEER need", x.features(1), 6);
        due("no version", x.features(2), 0);
        x.bring(1, 2, 0);
        due("and one brought", x.features(1), 7);
        x.need(1, 0, 0, Resolverium.NORMAL, 0, 7, 4);
        due("and one asked by that", x.features(0), 4);
        x.setPlatform(1);
        due("on all platforms", x.features(0), 4);
        x.solve(2, 0);
        due("the demands that count", x.features(1), 7);
        x.solve(1, 0);
        due("no solution", x.features(1), 0);
        noIndex("6", () -> x.features(6));
        noIndex("-1", () -> x.features(-1));
    }

    private static void promise20() {
        promise = 20;
        Resolverium x = threeVersions();
        due("each version", x.solutions(), 3);
        x.solve(0, 0);
        due("the empty one", x.solutions(), 1);
        x.solve(1, 0);
        x.yank(0);
        due("without a yanked one", x.solutions(), 2);
        x.lock();
        due("the lock takes none away", x.solutions(), 2);
        x.demand(0, 1, 0, 0);
        due("none", x.solutions(), 0);
        Resolverium y = world();
        int root = publish(y, 0, 1);
        for (int at = 1; at < 6; at++) {
            need(y, root, at, 0, Resolverium.OPTIONAL, ALWAYS);
            for (int first = 0; first < (at <= 3 ? 4 : 1); first++) {
                publish(y, at, first);
            }
        }
        y.demand(0, 0, 0, 0);
        y.solve(1, 0);
        due("5 * 5 * 5 * 2 * 2", y.solutions(), 500);
        publish(y, 4, 1);
        publish(y, 4, 2);
        due("5 * 5 * 5 * 4 * 2", y.solutions(), 1000);
        publish(y, 5, 1);
        due("1500", y.solutions(), 1000);
        due("the best one all the same", y.chosen(5), 17);
    }

    private static void promise21() {
        promise = 21;
        Resolverium x = threeVersions();
        publish(x, 1, 1);
        int two = exact(x, 2, 0, 0);
        int three = exact(x, 3, 0, 0);
        due("a solution", x.why(), 0);
        x.demand(1, 0, two, 0);
        x.demand(2, 0, three, 0);
        due("one that does not count", x.why(), 0);
        x.solve(3, 0);
        due("a solution for all that count", x.why(), 0);
        x.solve(7, 0);
        due("two together", x.why(), 6);
        x.demand(0, 0, two, 0);
        due("the least number", x.why(), 6);
        x.solve(5, 0);
        due("of those that count", x.why(), 12);
        x.demand(0, 5, 0, 0);
        due("one alone is fewer", x.why(), 16);
        x.demand(0, 1, two, 0);
        due("the least number of two alone", x.why(), 16);
        Resolverium y = world();
        publish(y, 0, 1);
        publish(y, 1, 1);
        need(y, 0, 1, 0, Resolverium.PEER, ALWAYS);
        y.demand(0, 0, 0, 0);
        y.demand(0, 1, 0, 0);
        y.solve(1, 0);
        due("all have one, though one alone has none", y.why(), 0);
        y.demand(0, 4, 0, 0);
        due("one alone for a peer", y.why(), 1);
    }

    private static void promise22() {
        promise = 22;
        Resolverium x = world();
        x.publish(0, 1, 0, 0, 0, 1);
        due("place 1 alone", x.against(0), Resolverium.IMPOSSIBLE);
        x.publish(0, 2, 0, 0, 0, 0);
        x.publish(0, 3, 0, 0, 0, 0);
        x.yank(0);
        x.setPlatforms(0, 0);
        due("HIDDEN first", x.against(0), Resolverium.HIDDEN);
        x.yank(1);
        x.setPlatforms(1, 6);
        int bad = x.advise(0, exact(x, 2, 0, 0));
        due("YANKED before FOREIGN", x.against(1), Resolverium.YANKED);
        x.yank(1);
        due("FOREIGN before BAD", x.against(1), Resolverium.FOREIGN);
        x.setPlatforms(1, 1);
        due("BAD", x.against(1), Resolverium.BAD);
        due("one advisory", bad, 1);
        due("nothing pulls", x.against(2), Resolverium.IMPOSSIBLE);
        x.demand(0, 0, exact(x, 2, 0, 0), 0);
        due("a demand that does not count", x.against(2), Resolverium.IMPOSSIBLE);
        x.solve(1, 0);
        due("REFUSED before IMPOSSIBLE", x.against(2), Resolverium.REFUSED);
        due("BAD before that", x.against(1), Resolverium.BAD);
        Resolverium y = threeVersions();
        due("FINE", y.against(2), Resolverium.FINE);
        due("PASSED_OVER", y.against(1), Resolverium.PASSED_OVER);
        need(y, 1, 3, 0, Resolverium.NORMAL, ALWAYS);
        due("needs what is not there", y.against(1), Resolverium.IMPOSSIBLE);
        publish(y, 1, 1);
        y.replace(1, 0);
        y.demand(0, 1, exact(y, 3, 0, 0), 0);
        due("a demand of the replaced one", y.against(0), Resolverium.REFUSED);
        due("not against the replaced one", y.against(3), Resolverium.IMPOSSIBLE);
        noIndex("-1", () -> y.against(-1));
        noIndex("4", () -> y.against(4));
    }

    private static void promise23() {
        promise = 23;
        Resolverium x = threeVersions();
        publish(x, 1, 1);
        x.demand(1, 1, 0, 0);
        due("one more", x.lock(), 1);
        due("none", x.lock(), 0);
        x.solve(3, 0);
        due("another one more", x.lock(), 1);
        x.yank(2);
        x.solve(3, 1);
        due("a yanked one is kept, though updated", x.lock(), 0);
        x.unlock(0);
        due("the next one, one more", x.lock(), 1);
        x.yank(2);
        due("updated", x.chosen(0), 2);
        x.solve(3, 0);
        due("the lock's one", x.chosen(0), 1);
        x.solve(2, 1);
        due("one less", x.lock(), 1);
        due("the lock has no others", x.unlock(0), NONE);
        due("the lock has it", x.unlock(1), 3);
        x.solve(3, 0);
        x.lock();
        x.demand(0, 0, exact(x, 1, 0, 0), 0);
        due("another version", x.lock(), 1);
        x.demand(0, 5, 0, 0);
        noState("no solution", () -> x.lock());
        due("unchanged by that", x.unlock(0), 0);
    }

    private static void promise24() {
        promise = 24;
        Resolverium x = threeVersions();
        due("none yet", x.unlock(0), NONE);
        x.lock();
        publish(x, 0, 4);
        due("by the lock", x.chosen(0), 2);
        due("that in it", x.unlock(0), 2);
        due("no more", x.unlock(0), NONE);
        due("chosen then", x.chosen(0), 3);
        noIndex("6", () -> x.unlock(6));
        noIndex("-1", () -> x.unlock(-1));
        x.lock();
        x.replace(0, 1);
        due("the lock is by the package itself", x.unlock(0), 3);
    }

    /** A world in which the packages 0, 2 and 4 have one version each, and demands. */
    private static Resolverium threePackages() {
        Resolverium x = world();
        for (int at = 0; at < 6; at += 2) {
            x.publish(at, 1, 2, 3, 0, 0);
            x.demand(at / 2, at, 0, 0);
        }
        x.solve(7, 0);
        return x;
    }

    private static void promise25() {
        promise = 25;
        Resolverium x = threePackages();
        due("cut off after 2", x.install(2), 2);
        due("the first one", x.onDisk(0), 27);
        due("the second one", x.onDisk(2), 10000 + 27 + 31);
        due("not the third one", x.onDisk(4), NONE);
        due("taken up", x.install(2), 1);
        due("the third one", x.onDisk(4), 20000 + 27 + 62);
        due("nothing to do", x.install(10), 0);
        x.spoil(2);
        due("a wrong sum", x.install(10), 1);
        due("is put right", x.onDisk(2), 10000 + 27 + 31);
        x.solve(2, 0);
        x.spoil(2);
        due("off before on", x.install(1), 1);
        due("taken off", x.onDisk(0), NONE);
        due("still wrong", x.onDisk(2), 10000 + 27 + 32);
        due("the rest", x.install(10), 2);
        due("taken off", x.onDisk(4), NONE);
        x.publish(2, 2, 0, 0, 5, 0);
        x.publish(2, 2, 0, 0, 0, 0);
        due("another version", x.install(1), 1);
        due("is there", x.onDisk(2), 40000 + 124 + 14 + 1);
        noArgument("0", () -> x.install(0));
        noArgument("11", () -> x.install(11));
        x.demand(1, 5, 0, 0);
        noState("no solution", () -> x.install(1));
        noArgument("the steps first", () -> x.install(LOW));
        due("unchanged by that", x.onDisk(2), 40000 + 124 + 14 + 1);
    }

    private static void promise26() {
        promise = 26;
        Resolverium x = threePackages();
        noState("not there", () -> x.spoil(0));
        x.install(10);
        due("the sum then", x.spoil(0), 28);
        due("and again", x.spoil(0), 29);
        due("on the disk", x.onDisk(0), 29);
        due("of another one", x.spoil(4), 27 + 62 + 1);
        noState("a package without a version", () -> x.spoil(1));
        noIndex("6", () -> x.spoil(6));
        noIndex("-1", () -> x.spoil(-1));
    }

    private static void promise27() {
        promise = 27;
        Resolverium x = world();
        for (int i = 0; i < 24; i++) {
            x.publish(i / 4, 9, 9, 9, i == 23 ? 9 : 5 + i % 4, 0);
        }
        x.demand(0, 5, x.range(Resolverium.EXACT, 9, 9, 9, 9), 7);
        x.solve(1, 0);
        due("not there", x.onDisk(5), NONE);
        x.install(1);
        due("31 * 23 + 7 * 9 + 5 * 9 + 3 * 9 + 9 + 1", x.onDisk(5), 230858);
        due("another package", x.onDisk(0), NONE);
        noIndex("6", () -> x.onDisk(6));
        noIndex("-1", () -> x.onDisk(-1));
    }

    private static void promise28() {
        promise = 28;
        Resolverium x = threePackages();
        due("all to put", x.pending(), 3);
        due("asking changes nothing", x.onDisk(0), NONE);
        x.install(1);
        due("two left", x.pending(), 2);
        x.install(10);
        due("none left", x.pending(), 0);
        x.spoil(0);
        due("a wrong sum", x.pending(), 1);
        x.solve(6, 0);
        due("to take off", x.pending(), 1);
        x.solve(0, 0);
        due("all to take off", x.pending(), 3);
        x.demand(0, 5, 0, 0);
        x.solve(1, 0);
        due("no solution", x.pending(), NONE);
    }
}
