import java.io.IOException;

/** The document's terms before 'Solutions', each sentence by itself. */
public final class TermsTest extends DocumentBase {
    private static final int EXACT = Resolverium.EXACT;
    private static final int AT_LEAST = Resolverium.AT_LEAST;
    private static final int BELOW = Resolverium.BELOW;
    private static final int ALL = Resolverium.ALL;
    private static final int CARET = Resolverium.CARET;
    private static final int TILDE = Resolverium.TILDE;
    private static final int WILD_MINOR = Resolverium.WILD_MINOR;
    private static final int WILD_PATCH = Resolverium.WILD_PATCH;
    private static final int NORMAL = Resolverium.NORMAL;
    private static final int OPTIONAL = Resolverium.OPTIONAL;
    private static final int PEER = Resolverium.PEER;

    public static void main(String[] args) throws IOException {
        TermsTest test = new TermsTest();
        test.whatItIs();
        test.terms();
        test.versions();
        test.ranges();
        test.rangesOfTwo();
        test.presInRanges();
        test.needs();
        test.platformsAndFeatures();
        test.demands();
        test.replaced();
        test.doc.end();
    }

    private void whatItIs() {
        doc.in("What it is");
        doc.says("A package manager: versions with pre-releases, ranges of all usual kinds, needs that are"
                + " optional, that ask for peers, or hang on features and platforms, places with ranks,"
                + " replaced packages, yanked and bad versions, workspaces with demands; the best solution by"
                + " locks and wishes, the fewest demands that cannot be fulfilled together, what is against"
                + " a version, and installs that are cut off and taken up.");
        Resolverium x = busy();
        doc.due("the best solution by the lock", x.chosen(0), 1);
        doc.due("by a wish", x.chosen(5), 9);
        doc.due("of a replaced package", x.chosen(4), NONE);
        doc.due("what is against it", x.against(6), Resolverium.HIDDEN);
        doc.due("to install", x.pending(), 2);
        doc.due("cut off", x.install(1), 1);
        doc.due("taken up", x.install(10), 1);
        x.solve(7, 0);
        doc.due("the fewest demands", x.why(), 4);
        doc.says("An object is used for at most 512 calls after it has been made; what later calls answer is"
                + " free.");
        Resolverium y = plain();
        publish(y, 0, 1);
        y.demand(0, 0, 0, 0);
        for (int call = 4; call < Calls.MOST; call++) {
            doc.due("call " + call, y.solve(call & 1, 0), call & 1);
        }
        doc.due("call 512", y.chosen(0), 0);
    }

    private void terms() {
        doc.in("Terms");
        doc.says("A world is told; solutions, reasons and the disk are asked.");
        String[] asked = {"chosen", "chosenAnew", "features", "against", "onDisk", "mending", "solutions", "why",
            "pending"};
        for (World world : World.values()) {
            Resolverium x = world.make();
            for (String call : asked) {
                String first = Calls.answer(x, call, 0);
                doc.due(call + " asked again in " + world, Calls.answer(x, call, 0), first);
            }
            doc.due("asking changes nothing in " + world, Calls.probe(x), world.untouched());
        }
        doc.says("A call that throws an exception changes nothing;");
        Resolverium y = busy();
        int[] beyond = {-7, -7, -7, -7, -7, -7, -7};
        String[] calls = {"publish", "compare", "yank", "setPlatforms", "bring", "range", "join", "has", "need",
            "demand", "advise", "mending", "replace", "setPlatform", "solve", "chosen", "chosenAnew",
            "features", "against", "unlock", "install", "spoil", "onDisk"};
        for (String call : calls) {
            Class<?> due = call.equals("solve") || call.equals("install") ? ARGUMENT : INDEX;
            doc.due(call, Calls.answer(y, call, beyond), due.getSimpleName());
        }
        doc.due("after all of them", Calls.probe(y), World.BUSY.untouched());
        doc.says("if several exceptions apply, the one that its throws clause names first is thrown.");
        doc.refused(World.FULL, INDEX, "publish", 0, 10, 1, 1, 1, 2);
        doc.refused(World.FULL, ARGUMENT, "publish", 0, 10, 1, 1, 1, 1);
        doc.refused(World.FULL, INDEX, "range", 8, 10, 0, 0, 0);
        doc.refused(World.FULL, ARGUMENT, "range", 0, 10, 0, 0, 0);
        doc.refused(World.FULL, INDEX, "join", 8, 30, 0);
        doc.refused(World.FULL, INDEX, "need", 0, 0, 0, 0, 3, 8, 8);
        doc.refused(World.FULL, ARGUMENT, "need", 0, 0, 0, 0, 2, 7, 8);
        doc.refused(World.FULL, INDEX, "demand", 3, 0, 0, 8);
        doc.refused(World.FULL, ARGUMENT, "demand", 2, 0, 0, 8);
        doc.refused(World.FULL, INDEX, "advise", 0, 30);
        doc.refused(World.FULL, INDEX, "replace", 6, 6);
        doc.refused(World.STUCK, ARGUMENT, "install", 11);
        doc.refused(World.STUCK, INDEX, "spoil", 6);
    }

    private void versions() {
        doc.in("Versions and ranges");
        doc.says("Packages are 0 to 5.");
        for (int at = 0; at < 6; at++) {
            Resolverium x = plain();
            publish(x, at, 1);
            x.demand(0, at, 0, 0);
            doc.due("a package", x.solve(1, 0), 1);
            doc.due("its version", x.chosen(at), 0);
        }
        for (int beside : new int[] {-1, 6}) {
            doc.refused(World.BUSY, INDEX, "publish", beside, 1, 1, 1, 0, 0);
            doc.refused(World.BUSY, INDEX, "demand", 0, beside, 0, 0);
            doc.refused(World.BUSY, INDEX, "chosen", beside);
        }
        doc.says("A version is of a package, and has three numbers, 0 to 9 each, and a pre, 0 for none, 1 to 9.");
        int[][] edges = {{0, 0, 0, 0}, {9, 9, 9, 0}, {0, 0, 0, 1}, {9, 9, 9, 9}, {9, 0, 0, 9}, {0, 9, 9, 1}};
        for (int[] v : edges) {
            for (int place = 0; place < 2; place++) {
                doc.due("a version", busy().publish(4, v[0], v[1], v[2], v[3], place), 10);
            }
            for (int i = 0; i < 4; i++) {
                int[] arguments = {4, v[0], v[1], v[2], v[3], 0};
                arguments[i + 1] = v[i] == 9 ? 10 : -1;
                doc.refused(World.BUSY, ARGUMENT, "publish", arguments);
            }
        }
        order();
        doc.says("A package has up to 4 versions, none of them alike.");
        for (int at = 0; at < 6; at++) {
            Resolverium x = plain();
            for (int i = 0; i < 4; i++) {
                doc.due("up to 4", x.publish(at, 1, 1, 1, 4 - i, i % 2), i);
                doc.due("one alike", Calls.answer(x, "publish", at, 1, 1, 1, 4 - i, 0), "IllegalStateException");
            }
            doc.due("the 5th", Calls.answer(x, "publish", at, 1, 1, 1, 5, 0), "IllegalStateException");
        }
        doc.says("Versions are numbered from 0, of all packages together, as they are published.");
        Resolverium x = plain();
        for (int version = 0; version < 24; version++) {
            doc.due("number", x.publish(5 - version % 6, 9 - version / 6, 0, 0, 0, 0), version);
            doc.due("a refused one has none", Calls.answer(x, "publish", 5 - version % 6, 9 - version / 6, 0, 0, 0,
                    0), "IllegalStateException");
            doc.due("the next one is not there yet", Calls.answer(x, "mending", version + 1),
                    "IndexOutOfBoundsException");
        }
    }

    private void order() {
        doc.says("Of two versions of a package the one with the greater first number is greater, then with the"
                + " greater second, then third one; of those with the same three, one without a pre is greater"
                + " than one with, and otherwise the one with the greater pre.");
        String[] rising = {"0.0.0-1", "0.0.0-2", "0.0.0-9", "0.0.0", "0.0.1-1", "0.0.1", "0.0.2-9", "0.0.9", "0.1.0-9",
            "0.1.0", "0.1.9", "0.9.0", "0.9.9-9", "0.9.9", "1.0.0-1", "1.0.0-9", "1.0.0", "1.0.1", "1.9.9",
            "2.0.0-5", "2.0.0", "9.0.0", "9.0.9", "9.9.0", "9.9.9-1", "9.9.9-8", "9.9.9-9", "9.9.9"};
        for (int i = 0; i < rising.length; i++) {
            for (int j = 0; j < rising.length; j++) {
                if (i != j) {
                    Resolverium x = new Resolverium();
                    publish(x, rising[i]);
                    publish(x, rising[j]);
                    String pair = rising[i] + " and " + rising[j];
                    doc.due(pair, x.compare(0, 1), Integer.compare(i, j));
                    doc.due("what mends " + pair, x.mending(0), i < j ? 1 : NONE);
                    doc.due("the best of " + pair, bestOfTwo(x, rising[i], rising[j]), i < j ? 1 : 0);
                }
            }
        }
    }

    private static int bestOfTwo(Resolverium x, String one, String other) {
        int either = x.join(Resolverium.EITHER, range(x, EXACT, one), range(x, EXACT, other));
        x.demand(0, 0, either, 0);
        x.solve(1, 0);
        return x.chosen(0);
    }

    /** The numbers of a text like 1.2.3 or 1.2.3-4. */
    private static int[] numbers(String text) {
        int pre = text.length() > 5 ? text.charAt(6) - '0' : 0;
        return new int[] {text.charAt(0) - '0', text.charAt(2) - '0', text.charAt(4) - '0', pre};
    }

    private static int publish(Resolverium x, String text) {
        int[] v = numbers(text);
        return x.publish(0, v[0], v[1], v[2], v[3], 0);
    }

    private static int range(Resolverium x, int kind, String text) {
        int[] v = numbers(text);
        return x.range(kind, v[0], v[1], v[2], v[3]);
    }

    /** The range has all the versions before the stroke, and none of those behind it. */
    private void holds(int kind, String own, String versions) {
        boolean due = true;
        for (String version : versions.split(" ")) {
            if (version.equals("|")) {
                due = false;
                continue;
            }
            Resolverium x = new Resolverium();
            int before = range(x, kind, own);
            publish(x, version);
            int after = range(x, kind, own);
            String what = "kind " + kind + " of " + own + " has " + version;
            doc.due(what, x.has(before, 0), due);
            doc.due(what + ", which was there", x.has(after, 0), due);
        }
    }

    private void ranges() {
        doc.says("Ranges are numbered from 0, at most 30.");
        Resolverium x = new Resolverium();
        for (int i = 0; i < 30; i++) {
            doc.due("a refused one has no number", Calls.answer(x, "range", ALL, 0, 0, 0, 1),
                    "IllegalArgumentException");
            doc.due("number", i % 3 == 2 ? x.join(8 + i % 2, i - 1, i - 2) : exact(x, i % 10), i);
        }
        doc.due("the 31st", Calls.answer(x, "range", ALL, 0, 0, 0, 0), "IllegalStateException");
        doc.due("the 31st", Calls.answer(x, "join", 8, 0, 29), "IllegalStateException");
        doc.says("A range has a kind, and, but ALL, a version of its own, x, with the numbers a, b, c and a pre (0 in"
                + " WILD_MINOR and WILD_PATCH):");
        for (int i = 1; i <= 4; i++) {
            int[] ofAll = {ALL, 0, 0, 0, 0};
            ofAll[i] = 1;
            doc.refused(World.BUSY, ARGUMENT, "range", ofAll);
        }
        doc.refused(World.BUSY, ARGUMENT, "range", WILD_MINOR, 1, 0, 0, 1);
        doc.refused(World.BUSY, ARGUMENT, "range", WILD_PATCH, 1, 1, 0, 1);
        doc.says("- EXACT: x alone.");
        holds(EXACT, "1.2.3", "1.2.3 | 1.2.2 1.2.4 1.3.3 1.1.3 2.2.3 0.2.3 1.2.3-1 1.2.3-9");
        holds(EXACT, "0.0.0", "0.0.0 | 0.0.0-1 0.0.1 1.0.0 9.9.9");
        holds(EXACT, "9.9.9-9", "9.9.9-9 | 9.9.9 9.9.9-8 0.0.0");
        doc.says("AT_LEAST: x and greater ones.");
        holds(AT_LEAST, "1.2.3", "1.2.3 1.2.4 1.3.0 2.0.0 9.9.9 | 1.2.2 1.1.9 0.9.9 1.2.3-9 0.0.0");
        holds(AT_LEAST, "0.0.0", "0.0.0 0.0.1 9.9.9 | 0.0.0-9");
        holds(AT_LEAST, "9.9.9", "9.9.9 | 9.9.8 9.9.9-9 0.0.0");
        holds(AT_LEAST, "9.9.9-9", "9.9.9-9 9.9.9 | 9.9.9-8 9.9.8");
        holds(AT_LEAST, "1.0.0-2", "1.0.0-2 1.0.0-9 1.0.0 1.0.1 | 1.0.0-1 0.9.9 1.0.1-3");
        doc.says("BELOW: lesser ones than x.");
        holds(BELOW, "1.2.3", "1.2.2 1.1.9 0.9.9 0.0.0 | 1.2.3 1.2.4 1.3.0 2.0.0 9.9.9");
        holds(BELOW, "0.0.0", "| 0.0.0 0.0.1 9.9.9 0.0.0-1");
        holds(BELOW, "9.9.9", "9.9.8 0.0.0 | 9.9.9");
        holds(BELOW, "0.0.0-1", "| 0.0.0-1 0.0.0 0.0.0-2");
        holds(BELOW, "1.0.0-2", "1.0.0-1 0.9.9 | 1.0.0-2 1.0.0 1.0.0-3");
        doc.says("ALL: all.");
        holds(ALL, "0.0.0", "0.0.0 0.0.1 0.1.0 1.0.0 9.9.9 | 0.0.0-1 9.9.9-9");
        caret();
        doc.says("- WILD_MINOR: all with the first number a.");
        holds(WILD_MINOR, "1.0.0", "1.0.0 1.0.9 1.9.0 1.9.9 | 0.9.9 2.0.0 0.1.1 1.0.0-1 2.0.0-1");
        holds(WILD_MINOR, "0.0.0", "0.0.0 0.9.9 | 1.0.0 9.0.0");
        holds(WILD_MINOR, "9.0.0", "9.0.0 9.9.9 | 8.9.9 0.9.9");
        doc.says("WILD_PATCH: all with the first numbers a and b.");
        holds(WILD_PATCH, "1.2.0", "1.2.0 1.2.9 | 1.1.9 1.3.0 0.2.0 2.2.0 1.2.0-1 1.3.0-1");
        holds(WILD_PATCH, "0.0.0", "0.0.0 0.0.9 | 0.1.0 1.0.0");
        holds(WILD_PATCH, "1.9.0", "1.9.0 1.9.9 | 2.0.0 1.8.9");
        holds(WILD_PATCH, "9.9.0", "9.9.0 9.9.9 | 9.8.9 8.9.9");
    }

    private void caret() {
        doc.says("- CARET: x and greater ones below the next one that is not compatible: (a + 1).0.0, if a is above 0;"
                + " otherwise 0.(b + 1).0, if b is above 0; otherwise 0.0.(c + 1).");
        holds(CARET, "1.2.3", "1.2.3 1.2.4 1.3.0 1.9.9 | 1.2.2 1.1.9 2.0.0 0.9.9 1.2.3-9");
        holds(CARET, "1.0.0", "1.0.0 1.9.9 | 0.9.9 2.0.0");
        holds(CARET, "9.0.9", "9.0.9 9.9.9 | 9.0.8 8.9.9");
        holds(CARET, "9.9.9", "9.9.9 | 9.9.8 9.9.9-9");
        holds(CARET, "0.2.3", "0.2.3 0.2.9 | 0.2.2 0.3.0 0.1.9 1.0.0 1.2.3");
        holds(CARET, "0.1.0", "0.1.0 0.1.9 | 0.0.9 0.2.0");
        holds(CARET, "0.9.9", "0.9.9 | 0.9.8 1.0.0 1.9.9");
        holds(CARET, "0.0.3", "0.0.3 | 0.0.2 0.0.4 0.1.0 1.0.0");
        holds(CARET, "0.0.0", "0.0.0 | 0.0.1 0.0.0-9 0.1.0");
        holds(CARET, "0.0.9", "0.0.9 | 0.0.8 0.1.0 1.0.0");
        doc.says("TILDE: x and greater ones below a.(b + 1).0.");
        holds(TILDE, "1.2.3", "1.2.3 1.2.4 1.2.9 | 1.2.2 1.3.0 2.2.3 0.2.9 1.2.3-9");
        holds(TILDE, "0.0.0", "0.0.0 0.0.9 | 0.1.0 1.0.0 0.0.0-9");
        holds(TILDE, "1.9.0", "1.9.0 1.9.9 | 2.0.0 1.8.9");
        holds(TILDE, "9.9.9", "9.9.9 | 9.9.8");
        doc.says("These bounds have no pre.");
        holds(CARET, "1.9.9-3", "1.9.9-3 1.9.9-9 1.9.9 | 1.9.9-2 2.0.0-1 2.0.0-3 2.0.0");
        holds(CARET, "0.1.9-3", "0.1.9-3 0.1.9 | 0.2.0-1 0.2.0-3 0.2.0");
        holds(CARET, "0.0.1-3", "0.0.1-3 0.0.1 | 0.0.2-1 0.0.2-3 0.0.2");
        holds(TILDE, "1.2.9-3", "1.2.9-3 1.2.9 | 1.3.0-1 1.3.0-3 1.3.0");
    }

    private void rangesOfTwo() {
        String[] versions = {"1.0.0", "2.0.0", "3.0.0", "4.0.0"};
        doc.says("- BOTH, of two ranges: what both have.");
        joined(Resolverium.BOTH, versions);
        doc.says("EITHER: what one of them has.");
        joined(Resolverium.EITHER, versions);
    }

    /** All pairs of ranges, made before and behind the versions that they have or have not. */
    private void joined(int kind, String[] versions) {
        int[] kinds = {EXACT, AT_LEAST, BELOW, WILD_MINOR};
        for (int pair = 0; pair < 16; pair++) {
            for (int behind = 0; behind < 2; behind++) {
                Resolverium x = new Resolverium();
                for (int i = 0; i < 4 * behind; i++) {
                    publish(x, versions[i]);
                }
                int one = range(x, kinds[pair / 4], "3.0.0");
                int other = range(x, kinds[pair % 4], "2.0.0");
                int joined = x.join(kind, one, other);
                int again = x.join(kind, joined, one);
                int same = x.join(kind, other, other);
                for (int i = 4 * behind; i < 4; i++) {
                    publish(x, versions[i]);
                }
                for (int v = 0; v < 4; v++) {
                    boolean both = x.has(one, v) && x.has(other, v);
                    boolean either = x.has(one, v) || x.has(other, v);
                    boolean isBoth = kind == Resolverium.BOTH;
                    doc.due("pair " + pair, x.has(joined, v), isBoth ? both : either);
                    doc.due("of a joined one", x.has(again, v), isBoth ? both : either);
                    doc.due("of the same two", x.has(same, v), x.has(other, v));
                }
            }
        }
    }

    private void presInRanges() {
        doc.says("A version with a pre is in a range of the kinds but BOTH and EITHER only if, besides, the range has a"
                + " version x of its own with a pre, and with the same three numbers; an EXACT one, that is, if it"
                + " is x.");
        String others = "1.2.3-4 1.2.3-5 1.2.3 | 1.2.3-3 1.2.4-4 1.3.3-4 2.2.3-4 1.2.4-9 1.3.3-9 2.2.3-9";
        for (int kind : new int[] {AT_LEAST, CARET, TILDE}) {
            holds(kind, "1.2.3-4", others);
            holds(kind, "1.2.3", "1.2.3 | 1.2.3-1 1.2.3-9 1.2.4-1 1.2.9-9");
        }
        holds(BELOW, "1.2.3-4", "1.2.3-3 1.2.3-1 1.2.2 | 1.2.3-4 1.2.3-5 1.2.3 1.2.2-3 1.1.3-3 0.2.3-3");
        holds(BELOW, "1.2.3", "1.2.2 | 1.2.3-1 1.2.2-1 0.0.0-1");
        holds(EXACT, "1.2.3-4", "1.2.3-4 | 1.2.3 1.2.3-3 1.2.3-5 1.2.4-4");
        holds(WILD_MINOR, "1.0.0", "1.0.0 | 1.0.0-1 1.0.0-9 1.9.9-9");
        holds(WILD_PATCH, "1.0.0", "1.0.0 | 1.0.0-1 1.0.0-9 1.0.9-9");
        holds(ALL, "0.0.0", "0.0.0 | 0.0.0-1 0.0.0-9 1.0.0-1");
        Resolverium x = new Resolverium();
        publish(x, "1.2.3-4");
        int atLeast = range(x, AT_LEAST, "1.0.0");
        int withPre = range(x, AT_LEAST, "1.2.3-1");
        int below = range(x, BELOW, "1.2.3-9");
        doc.due("BOTH of one that has it", x.has(x.join(Resolverium.BOTH, atLeast, withPre), 0), false);
        doc.due("BOTH of two that have it", x.has(x.join(Resolverium.BOTH, below, withPre), 0), true);
        doc.due("EITHER of one that has it", x.has(x.join(Resolverium.EITHER, atLeast, withPre), 0), true);
        doc.due("EITHER of none that has it", x.has(x.join(Resolverium.EITHER, atLeast, atLeast), 0), false);
        allPlainRanges();
    }

    /** All ranges against all versions, of the numbers and pres at the edges and some between. */
    private void allPlainRanges() {
        int[] digits = {0, 1, 2, 9};
        int[] pres = {0, 1, 2, 9};
        int[][] all = new int[256][];
        for (int i = 0; i < 256; i++) {
            all[i] = new int[] {digits[i / 64], digits[i / 16 % 4], digits[i / 4 % 4], pres[i % 4]};
        }
        for (int first = 0; first < 256; first += 24) {
            for (int range = 0; range < 7 * 256; range += 15) {
                compareRanges(all, first, range);
            }
        }
    }

    private void compareRanges(int[][] all, int first, int firstRange) {
        int[] kinds = {EXACT, AT_LEAST, BELOW, CARET, TILDE, WILD_MINOR, WILD_PATCH};
        Resolverium x = new Resolverium();
        int versions = Math.min(24, 256 - first);
        for (int i = 0; i < versions; i++) {
            int[] v = all[first + i];
            x.publish(i / 4, v[0], v[1], v[2], v[3], 0);
        }
        for (int range = firstRange; range < Math.min(7 * 256, firstRange + 15); range++) {
            int kind = kinds[range / 256];
            int[] own = all[range % 256].clone();
            own[1] = kind == WILD_MINOR ? 0 : own[1];
            own[2] = kind == WILD_MINOR || kind == WILD_PATCH ? 0 : own[2];
            own[3] = kind == WILD_MINOR || kind == WILD_PATCH ? 0 : own[3];
            int number = x.range(kind, own[0], own[1], own[2], own[3]);
            for (int i = 0; i < versions; i++) {
                int[] v = all[first + i];
                Model.Version version = new Model.Version();
                version.first = v[0];
                version.second = v[1];
                version.third = v[2];
                version.pre = v[3];
                boolean due = new Model.Range(kind, own[0], own[1], own[2], own[3], null, null).has(version);
                doc.due("range " + range + " of version " + (first + i), x.has(number, i), due);
            }
        }
    }

    private void needs() {
        doc.says("A version has needs, up to 5, in the order in which they are told; each is of a package, has a range,"
                + " a kind, a feature, 0 to 2, or NONE, a set of platforms (bits 0 to 2), and a set of features (bits"
                + " 0 to 2) that it asks of that package.");
        for (int place = 0; place < 5; place++) {
            Resolverium x = plain();
            for (int at = 0; at < 6; at++) {
                publish(x, at, 1);
            }
            for (int i = 0; i < 5; i++) {
                doc.due("so many needs", x.need(0, i + 1, 0, NORMAL, NONE, i == place ? 7 : 0, 5), i + 1);
            }
            doc.due("the 6th", Calls.answer(x, "need", 0, 1, 0, 0, NONE, 7, 0), "IllegalStateException");
            x.demand(0, 0, 0, 0);
            doc.due("packages", x.solve(1, 0), 2);
            doc.due("by the need " + place, x.chosen(place + 1), place + 1);
            doc.due("features asked", x.features(place + 1), 5);
        }
        Resolverium y = plain();
        for (int at = 0; at < 6; at++) {
            publish(y, at, 1);
        }
        for (int at = 1; at < 6; at++) {
            y.need(0, at, 0, NORMAL, NONE, 7, at);
        }
        y.demand(0, 0, 0, 0);
        doc.due("all five", y.solve(1, 0), 6);
        for (int at = 1; at < 6; at++) {
            doc.due("each asks of its package", y.features(at), at);
        }
        needsOfRanges();
        needsOfNeighbours();
    }

    /** The needs of a version that has all five are not mixed up with those of the next one. */
    private void needsOfNeighbours() {
        for (int run = 0; run < 4; run++) {
            int version = run % 2;
            Resolverium x = plain();
            for (int at = 0; at < 6; at++) {
                publish(x, at, 1);
            }
            publish(x, 5, 2);
            for (int i = 0; i < 5; i++) {
                x.need(version, 4, 0, i % 2 == 0 ? NORMAL : OPTIONAL, NONE, 7, 1);
                x.need(1 - version, run < 2 ? 5 : 4, run < 2 ? exact(x, 2) : 0, NORMAL, NONE, 7, 6);
                x.need(2 + version, 3, 0, PEER, NONE, 7, 6);
            }
            x.demand(0, version, 0, 0);
            doc.due("its own needs", x.solve(1, 0), 2);
            doc.due("the package that it needs", x.chosen(4), 4);
            doc.due("found anew", x.chosenAnew(4), 4);
            doc.due("the features that it asks", x.features(4), 1);
            doc.due("no other solution", x.solutions(), 1);
        }
    }

    private void needsOfRanges() {
        for (int first = 1; first <= 4; first++) {
            for (int kind : new int[] {NORMAL, OPTIONAL}) {
                Resolverium x = plain();
                for (int version = 1; version <= 4; version++) {
                    publish(x, 5, version);
                }
                publish(x, 0, 1);
                need(x, 4, 5, exact(x, first), kind);
                x.demand(0, 0, 0, 0);
                x.solve(1, 0);
                doc.due("in the range of its need", x.chosen(5), first - 1);
                doc.due("solutions", x.solutions(), kind == NORMAL ? 1 : 2);
            }
        }
    }

    private void platformsAndFeatures() {
        doc.says("There are the platforms 0 to 2; the platform 0 is the one of now at first.");
        Resolverium x = plain();
        publish(x, 0, 1);
        for (int platform = 0; platform < 3; platform++) {
            x.setPlatforms(0, 1 << platform);
            doc.due("at first", x.against(0) == Resolverium.FOREIGN, platform != 0);
        }
        for (int platform = 0; platform < 3; platform++) {
            doc.due("the one before", x.setPlatform(platform), Math.max(0, platform - 1));
        }
        doc.refused(World.EMPTY, INDEX, "setPlatform", 3);
        doc.refused(World.EMPTY, INDEX, "setPlatform", -1);
        doc.says("A version may let a feature bring another one.");
        for (int feature = 0; feature < 3; feature++) {
            Resolverium y = plain();
            publish(y, 0, 1);
            y.bring(0, feature, (feature + 1) % 3);
            y.demand(0, 0, 0, 1 << feature);
            y.solve(1, 0);
            doc.due("one brings one", y.features(0), 7 ^ 1 << (feature + 2) % 3);
            y.bring(0, (feature + 1) % 3, (feature + 2) % 3);
            doc.due("which brings the third one", y.features(0), 7);
            y.bring(0, (feature + 2) % 3, feature);
            doc.due("round", y.features(0), 7);
        }
        Resolverium z = plain();
        publish(z, 0, 1);
        for (int i = 0; i < 9; i++) {
            z.bring(0, i / 3, i % 3);
        }
        z.demand(0, 0, 0, 0);
        z.solve(1, 0);
        doc.due("nothing is on by itself", z.features(0), 0);
    }

    private void demands() {
        doc.says("There are the workspaces 0 to 2.");
        Resolverium x = plain();
        for (int workspace = 0; workspace < 3; workspace++) {
            publish(x, workspace, 1);
            doc.due("a demand", x.demand(workspace, workspace, 0, 0), workspace);
        }
        for (int set = 0; set < 8; set++) {
            x.solve(set, 0);
            for (int workspace = 0; workspace < 3; workspace++) {
                doc.due("of the set " + set, x.chosen(workspace) != NONE, (set >> workspace & 1) == 1);
            }
        }
        doc.refused(World.BUSY, INDEX, "demand", 3, 0, 0, 0);
        doc.refused(World.BUSY, INDEX, "demand", -1, 0, 0, 0);
        doc.says("A demand is of a workspace, for a package, with a range and a set of features that it asks.");
        for (int version = 0; version < 16; version++) {
            Resolverium y = World.EMPTY.make();
            int range = exact(y, 1 + version % 4);
            for (int i = 0; i < 16; i++) {
                publish(y, i / 4, 1 + i % 4);
            }
            y.demand(version % 3, version / 4, range, version % 8);
            y.solve(1 << version % 3, 0);
            doc.due("its version", y.chosen(version / 4), version);
            doc.due("its features", y.features(version / 4), version % 8);
            doc.due("no other way", y.solutions(), 1);
        }
        doc.says("Demands are numbered from 0, at most 6.");
        Resolverium z = plain();
        for (int demand = 0; demand < 6; demand++) {
            doc.due("a refused one has no number", Calls.answer(z, "demand", 0, 0, 0, 8),
                    "IllegalArgumentException");
            doc.due("number", z.demand((5 - demand) % 3, demand, 0, 7), demand);
        }
        doc.due("the 7th", Calls.answer(z, "demand", 0, 0, 0, 0), "IllegalStateException");
    }

    private void replaced() {
        doc.says("A package may be replaced by another one: then each need and demand of it is one of that, or, if that"
                + " is replaced itself, of what replaces it, and so on; no package replaces itself over others.");
        for (int length = 0; length < 5; length++) {
            for (int kind : new int[] {NORMAL, OPTIONAL, PEER, -1}) {
                Resolverium x = chainOfReplaced(length, kind);
                for (int at = 0; at < 5; at++) {
                    doc.due("over " + length + " by kind " + kind, x.chosen(at), at == length ? at : NONE);
                    doc.due("with the features", x.features(at), at == length ? 3 : 0);
                }
            }
        }
        Resolverium x = chainOfReplaced(5, -1);
        doc.due("the last package replaces all", x.chosen(5), 5);
        doc.due("and there is no other solution", x.solutions(), 1);
        for (int at = 0; at < 6; at++) {
            doc.due("it replaces itself", Calls.answer(x, "replace", 5, at), "IllegalStateException");
            doc.refused(World.EMPTY, STATE, "replace", at, at);
        }
        doc.refused(World.BUSY, STATE, "replace", 5, 4);
        ofThePackageItself();
    }

    /** The package 0 is replaced by 1, that by 2, and so on; it is needed by 5, or demanded (-1). */
    private static Resolverium chainOfReplaced(int length, int kind) {
        Resolverium x = plain();
        for (int at = 0; at < 6; at++) {
            publish(x, at, 1);
        }
        for (int at = 0; at < length; at++) {
            x.replace(at, at + 1);
        }
        if (kind == -1) {
            x.demand(0, 0, 0, 3);
        } else {
            x.need(5, 0, 0, kind, NONE, 7, 3);
            x.demand(0, 5, 0, 0);
        }
        if (kind == PEER) {
            x.demand(0, 0, 0, 0);
        }
        x.solve(1, 0);
        return x;
    }

    private void ofThePackageItself() {
        doc.says("(Advisories, the lock and the disk are by the package itself.)");
        Resolverium x = plain();
        publish(x, 0, 1);
        publish(x, 1, 1);
        x.demand(0, 0, 0, 0);
        x.solve(1, 0);
        x.lock();
        x.install(1);
        x.replace(0, 1);
        doc.due("the lock", x.unlock(1), NONE);
        doc.due("the disk", x.onDisk(0), 8);
        doc.due("the disk", x.onDisk(1), NONE);
        doc.due("the sum", x.spoil(0), 9);
        doc.due("what replaces it", x.chosen(1), 1);
        doc.due("the lock", x.unlock(0), 0);
        x.advise(0, 0);
        doc.due("an advisory for it", x.against(0), Resolverium.BAD);
        doc.due("is not for what replaces it", x.against(1), Resolverium.FINE);
        x.advise(1, 0);
        doc.due("one for that is", x.against(1), Resolverium.BAD);
    }
}
