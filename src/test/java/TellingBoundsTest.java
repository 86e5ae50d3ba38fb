import java.io.IOException;

/**
 * Promises 1 to 15, each sentence of the document by itself: the bounds of each argument on
 * both sides, the limits of what is returned, and each exception, with what a refused call leaves.
 */
public final class TellingBoundsTest extends DocumentBase {
    public static void main(String[] args) throws IOException {
        TellingBoundsTest test = new TellingBoundsTest();
        test.newObject();
        test.publish();
        test.compare();
        test.yank();
        test.setPlatforms();
        test.bring();
        test.range();
        test.join();
        test.has();
        test.need();
        test.demand();
        test.advise();
        test.mending();
        test.replace();
        test.setPlatform();
        test.doc.end();
    }

    private void newObject() {
        doc.in("Promise 1: A new object");
        doc.says("Creates a world without versions, an empty lock and an empty disk; no workspace"
                + " counts.");
        for (int version = 0; version < 24; version++) {
            doc.refused(World.EMPTY, INDEX, "against", version);
        }
        doc.refused(World.EMPTY, INDEX, "has", 0, 0);
        Resolverium x = new Resolverium();
        for (int at = 0; at < 6; at++) {
            doc.due("lock", x.unlock(at), NONE);
            doc.due("disk", x.onDisk(at), NONE);
            doc.refused(World.EMPTY, STATE, "spoil", at);
        }
        doc.due("a solution", x.solutions(), 1);
        doc.due("the first version", x.publish(5, 9, 9, 9, 9, 1), 0);
        doc.due("is not yanked, so it is then", x.yank(0), true);
        doc.due("brings nothing", x.bring(0, 2, 2), true);
        doc.due("the first range", x.range(Resolverium.ALL, 0, 0, 0, 0), 0);
        doc.due("the first need", x.need(0, 5, 0, 0, NONE, 0, 0), 1);
        doc.due("the first demand", x.demand(2, 5, 0, 0), 0);
        doc.due("the first advisory", x.advise(0, 0), 1);
        doc.due("not replaced", x.replace(5, NONE), NONE);
        doc.due("the platform of now", x.setPlatform(2), 0);
        Resolverium y = sixDemanded();
        for (int at = 0; at < 6; at++) {
            doc.due("no workspace counts", y.chosen(at), NONE);
            doc.due("and none anew", y.chosenAnew(at), NONE);
        }
        doc.due("no demand counts", y.solutions(), 1);
        doc.due("nothing to install", y.pending(), 0);
    }

    private void publish() {
        doc.in("Promise 2: publish");
        Sentences.Right call = right(World.BUSY, "publish", 3, 8, 8, 8, 8, 0);
        doc.says("Publishes a version, for all platforms.");
        for (int platform = 0; platform < 3; platform++) {
            Resolverium x = new Resolverium();
            x.setPlatform(platform);
            doc.due("not foreign", x.against(publish(x, 5, 0)), Resolverium.IMPOSSIBLE);
            doc.due("platforms", x.setPlatforms(0, 7), 7);
        }
        doc.says("- `at`: the package");
        doc.limits(call, 0, 0, 5, INDEX);
        doc.says("- `first`: 0 to 9");
        doc.limits(call, 1, 0, 9, ARGUMENT);
        doc.says("- `second`: 0 to 9");
        doc.limits(call, 2, 0, 9, ARGUMENT);
        doc.says("- `third`: 0 to 9");
        doc.limits(call, 3, 0, 9, ARGUMENT);
        doc.says("- `pre`: 0 to 9");
        doc.limits(call, 4, 0, 9, ARGUMENT);
        doc.says("- `place`: 0 or 1");
        doc.limits(call, 5, 0, 1, INDEX);
        places();
        doc.says("Returns its number.");
        Resolverium x = new Resolverium();
        for (int version = 0; version < 24; version++) {
            doc.due("number", x.publish(version % 6, 9, 9, 9, version / 6, 1), version);
        }
        doc.says("Throws `IndexOutOfBoundsException` if there is no such package or place");
        doc.clashes(call);
        doc.comesBefore(right(World.FULL, "publish", 0, 9, 9, 9, 9, 1), STATE);
        doc.says("Throws `IllegalArgumentException` if first, second, third or pre is out of range");
        doc.comesBefore(right(World.BUSY, "publish", 0, 1, 0, 0, 0, 1), STATE);
        doc.says("Throws `IllegalStateException` if the package has 4 versions, or one like this");
        fullPackages();
        alikes();
    }

    private void places() {
        Resolverium x = new Resolverium();
        x.publish(0, 1, 0, 0, 0, 1);
        x.publish(1, 1, 0, 0, 0, 0);
        x.publish(1, 2, 0, 0, 0, 1);
        doc.due("1 without 0", x.against(0), Resolverium.IMPOSSIBLE);
        doc.due("0", x.against(1), Resolverium.IMPOSSIBLE);
        doc.due("1 with 0", x.against(2), Resolverium.HIDDEN);
    }

    private void fullPackages() {
        for (int at = 0; at < 6; at++) {
            doc.refused(World.FULL, STATE, "publish", at, 9, 9, 9, 0, 0);
            Resolverium x = new Resolverium();
            for (int i = 0; i < 4; i++) {
                doc.due("up to the 4th", x.publish(at, 0, 0, 0, i, 1), i);
            }
            doc.due("the 5th", Calls.answer(x, "publish", at, 0, 0, 0, 4, 1), STATE.getSimpleName());
            doc.due("a full package leaves the others", publish(x, (at + 1) % 6, 1), 4);
        }
    }

    /** Alike are those with the same three numbers and the same pre, be their places what they may. */
    private void alikes() {
        doc.refused(World.BUSY, STATE, "publish", 2, 1, 0, 0, 0, 0);
        doc.refused(World.BUSY, STATE, "publish", 2, 1, 0, 0, 0, 1);
        doc.refused(World.BUSY, STATE, "publish", 2, 1, 0, 0, 1, 0);
        doc.refused(World.BUSY, STATE, "publish", 0, 3, 0, 0, 0, 0);
        int[][] unlike = {{1, 0, 0, 2}, {1, 0, 1, 0}, {1, 1, 0, 0}, {0, 0, 0, 0}};
        for (int[] v : unlike) {
            doc.due("one that is not alike", busy().publish(2, v[0], v[1], v[2], v[3], 0), 10);
        }
        doc.due("of another package", busy().publish(4, 1, 0, 0, 1, 1), 10);
        Resolverium x = new Resolverium();
        x.publish(0, 0, 0, 0, 0, 0);
        doc.due("no pre and a pre", x.publish(0, 0, 0, 0, 9, 0), 1);
        doc.due("none", Calls.answer(x, "publish", 0, 0, 0, 0, 0, 0), STATE.getSimpleName());
        doc.due("9", Calls.answer(x, "publish", 0, 0, 0, 0, 9, 0), STATE.getSimpleName());
    }

    private void compare() {
        doc.in("Promise 3: compare");
        Sentences.Right call = right(World.BUSY, "compare", 0, 1);
        doc.says("Compares two versions of one package.");
        doc.due("0 and 2", busy().compare(0, 2), -1);
        doc.due("8 and 9", busy().compare(9, 8), 1);
        doc.says("- `version`: the number of a version");
        outOfVersions(call, 0);
        doc.says("- `other`: the number of a version");
        outOfVersions(call, 1);
        doc.says("Returns 1 if the first one is greater, -1 if it is lesser, 0 if both are the same one.");
        Resolverium x = World.FULL.make();
        for (int version = 0; version < 24; version++) {
            int first = version / 4 * 4;
            for (int other = first; other < first + 4; other++) {
                doc.due("sign", x.compare(version, other), Integer.compare(version, other));
            }
        }
        doc.says("Throws `IndexOutOfBoundsException` if there is no such version");
        doc.refused(World.BUSY, INDEX, "compare", 10, 10);
        doc.refused(World.BUSY, INDEX, "compare", -1, 10);
        doc.refused(World.EMPTY, INDEX, "compare", 0, 0);
        doc.says("Throws `IllegalArgumentException` if they are of unlike packages");
        for (int other : new int[] {3, 5, 7, 9}) {
            doc.refused(World.BUSY, ARGUMENT, "compare", 2, other);
            doc.refused(World.BUSY, ARGUMENT, "compare", other, 2);
        }
    }

    /** The numbers beyond those of the versions, -1 and 10 in BUSY, 24 in FULL, 0 in EMPTY. */
    private void outOfVersions(Sentences.Right call, int argument) {
        for (int value : new int[] {-1, 10, Integer.MIN_VALUE, Integer.MAX_VALUE}) {
            doc.refused(World.BUSY, INDEX, call.name(), call.with(argument, value));
        }
        doc.refused(World.FULL, INDEX, call.name(), call.with(argument, 24));
        doc.refused(World.FULL, INDEX, call.name(), call.with(argument, -1));
        doc.refused(World.EMPTY, INDEX, call.name(), call.with(argument, 0));
    }

    private void yank() {
        doc.in("Promise 4: yank");
        doc.says("Yanks a version, or takes that back.");
        Resolverium x = plain();
        publish(x, 0, 1);
        for (int i = 0; i < 3; i++) {
            x.yank(0);
            doc.due("yanked", x.against(0), Resolverium.YANKED);
            x.yank(0);
            doc.due("taken back", x.against(0), Resolverium.IMPOSSIBLE);
        }
        doc.says("- `version`: the number of a version");
        doc.limits(right(World.BUSY, "yank", 0), 0, 0, 9, INDEX);
        doc.limits(right(World.FULL, "yank", 0), 0, 0, 23, INDEX);
        doc.says("Returns whether it is yanked then.");
        Resolverium y = World.FULL.make();
        for (int version = 0; version < 24; version++) {
            doc.due("yanked then", y.yank(version), true);
            doc.due("not then", y.yank(version), false);
            doc.due("again", y.yank(version), true);
        }
        doc.says("Throws `IndexOutOfBoundsException` if there is no such version");
        doc.refused(World.EMPTY, INDEX, "yank", 0);
    }

    private void setPlatforms() {
        doc.in("Promise 5: setPlatforms");
        Sentences.Right call = right(World.BUSY, "setPlatforms", 0, 7);
        doc.says("Sets the platforms of a version.");
        Resolverium x = plain();
        publish(x, 0, 1);
        for (int set = 0; set < 8; set++) {
            x.setPlatforms(0, set);
            for (int platform = 0; platform < 3; platform++) {
                x.setPlatform(platform);
                doc.due("platforms " + set + " on " + platform, x.against(0),
                        (set >> platform & 1) == 1 ? Resolverium.IMPOSSIBLE : Resolverium.FOREIGN);
            }
        }
        doc.says("- `version`: the number of a version");
        doc.limits(call, 0, 0, 9, INDEX);
        doc.says("- `platforms`: 0 to 7");
        doc.limits(call, 1, 0, 7, ARGUMENT);
        doc.says("Returns those before.");
        Resolverium y = World.FULL.make();
        for (int version = 0; version < 24; version++) {
            doc.due("all at first", y.setPlatforms(version, version % 8), 7);
        }
        for (int version = 0; version < 24; version++) {
            doc.due("before", y.setPlatforms(version, 0), version % 8);
        }
        doc.says("Throws `IndexOutOfBoundsException` if there is no such version");
        doc.clashes(call);
        doc.refused(World.FULL, INDEX, "setPlatforms", 24, 7);
        doc.refused(World.EMPTY, INDEX, "setPlatforms", 0, 8);
        doc.says("Throws `IllegalArgumentException` if platforms is out of range");
        doc.refused(World.FULL, ARGUMENT, "setPlatforms", 23, 8);
        doc.refused(World.FULL, ARGUMENT, "setPlatforms", 0, -1);
    }

    private void bring() {
        doc.in("Promise 6: bring");
        Sentences.Right call = right(World.BUSY, "bring", 0, 0, 2);
        doc.says("Lets a feature of a version bring another one.");
        for (int feature = 0; feature < 3; feature++) {
            for (int other = 0; other < 3; other++) {
                Resolverium x = plain();
                publish(x, 0, 1);
                publish(x, 0, 2);
                x.demand(0, 0, 0, 1 << feature);
                x.bring(1, feature, other);
                x.solve(1, 0);
                doc.due("on", x.features(0), 1 << feature | 1 << other);
                x.yank(1);
                doc.due("not by the other version", x.features(0), 1 << feature);
            }
        }
        doc.says("- `version`: the number of a version");
        doc.limits(call, 0, 0, 9, INDEX);
        doc.says("- `feature`: 0 to 2");
        doc.limits(call, 1, 0, 2, INDEX);
        doc.says("- `other`: 0 to 2");
        doc.limits(call, 2, 0, 2, INDEX);
        doc.says("Returns whether it did not before.");
        for (int version : new int[] {0, 23}) {
            Resolverium x = World.FULL.make();
            for (int pair = 0; pair < 9; pair++) {
                doc.due("at first", x.bring(version, pair / 3, pair % 3), true);
            }
            for (int pair = 0; pair < 9; pair++) {
                doc.due("again", x.bring(version, pair / 3, pair % 3), false);
            }
        }
        doc.says("Throws `IndexOutOfBoundsException` if there is no such version or feature");
        doc.clashes(call);
        doc.refused(World.FULL, INDEX, "bring", 24, 0, 0);
        doc.refused(World.FULL, INDEX, "bring", 23, 3, 0);
        doc.refused(World.FULL, INDEX, "bring", 23, 2, 3);
        doc.refused(World.EMPTY, INDEX, "bring", 0, 0, 0);
    }

    private void range() {
        doc.in("Promise 7: range");
        doc.says("Makes a range of the kinds EXACT to WILD_PATCH.");
        Resolverium x = new Resolverium();
        x.publish(0, 1, 2, 4, 0, 0);
        int[] kinds = {Resolverium.EXACT, Resolverium.AT_LEAST, Resolverium.BELOW, Resolverium.ALL,
            Resolverium.CARET, Resolverium.TILDE, Resolverium.WILD_MINOR, Resolverium.WILD_PATCH};
        int[][] numbers = {{1, 2, 4}, {1, 2, 3}, {1, 2, 5}, {0, 0, 0}, {1, 1, 9}, {1, 2, 0}, {1, 0, 0},
            {1, 2, 0}};
        for (int kind : kinds) {
            int range = x.range(kind, numbers[kind][0], numbers[kind][1], numbers[kind][2], 0);
            doc.due("kind " + kind, x.has(range, 0), true);
        }
        doc.says("- `kind`: EXACT to WILD_PATCH");
        doc.limits(right(World.BUSY, "range", 0, 0, 0, 0, 0), 0, Resolverium.EXACT,
                Resolverium.WILD_PATCH, INDEX);
        doc.refused(World.BUSY, INDEX, "range", Resolverium.EITHER, 0, 0, 0, 0);
        doc.refused(World.BUSY, INDEX, "range", 10, 0, 0, 0, 0);
        rangeLimits("- `a`: 0 to 9; 0 for ALL", 1, 9, 9);
        rangeLimits("- `b`: 0 to 9; 0 for ALL and WILD_MINOR", 2, 0, 9);
        rangeLimits("- `c`: 0 to 9; 0 for ALL, WILD_MINOR and WILD_PATCH", 3, 0, 0);
        rangeLimits("- `pre`: 0 to 9; 0 for ALL, WILD_MINOR and WILD_PATCH", 4, 0, 0);
        doc.says("Returns its number.");
        Resolverium y = new Resolverium();
        for (int range = 0; range < 30; range++) {
            doc.due("number", y.range(range % 8, 0, 0, 0, 0), range);
        }
        doc.says("Throws `IndexOutOfBoundsException` if there is no such kind");
        doc.clashes(right(World.BUSY, "range", 0, 0, 0, 0, 0));
        doc.comesBefore(right(World.FULL, "range", 0, 9, 9, 9, 9), STATE);
        doc.says("Throws `IllegalArgumentException` if a, b, c or pre is out of range");
        doc.refused(World.FULL, ARGUMENT, "range", Resolverium.ALL, 0, 0, 0, 1);
        doc.refused(World.FULL, ARGUMENT, "range", Resolverium.WILD_MINOR, 9, 9, 0, 0);
        doc.refused(World.FULL, ARGUMENT, "range", Resolverium.WILD_PATCH, 9, 9, 9, 0);
        doc.says("Throws `IllegalStateException` if there are 30");
        doc.due("the 31st", Calls.answer(y, "range", 0, 9, 9, 9, 9), STATE.getSimpleName());
        doc.refused(World.FULL, STATE, "range", Resolverium.ALL, 0, 0, 0, 0);
        Resolverium z = plain();
        for (int range = 1; range < 29; range++) {
            z.join(Resolverium.BOTH, 0, 0);
        }
        doc.due("the 30th behind joined ones", exact(z, 0), 29);
        doc.due("the 31st", Calls.answer(z, "range", 3, 0, 0, 0, 0), STATE.getSimpleName());
    }

    /** An argument from 0 to 9, but to the given limits for WILD_MINOR and WILD_PATCH, and 0 for ALL. */
    private void rangeLimits(String sentence, int argument, int ofWildMinor, int ofWildPatch) {
        doc.says(sentence);
        for (int kind = Resolverium.EXACT; kind <= Resolverium.WILD_PATCH; kind++) {
            int high = kind == Resolverium.ALL ? 0 : kind == Resolverium.WILD_MINOR ? ofWildMinor
                    : kind == Resolverium.WILD_PATCH ? ofWildPatch : 9;
            Sentences.Right call = right(World.BUSY, "range", kind, 0, 0, 0, 0);
            if (kind == Resolverium.EXACT) {
                doc.limits(call, argument, 0, high, ARGUMENT);
            } else {
                doc.edges(call, argument, 0, high, ARGUMENT);
            }
        }
    }

    private void join() {
        doc.in("Promise 8: join");
        Sentences.Right call = right(World.BUSY, "join", Resolverium.BOTH, 1, 2);
        doc.says("Makes a range of two ranges.");
        Resolverium x = busy();
        int both = x.join(Resolverium.BOTH, 3, 1);
        int either = x.join(Resolverium.EITHER, both, 2);
        doc.due("both", x.has(both, 0), true);
        doc.due("not both", x.has(both, 1), false);
        doc.due("either", x.has(either, 1), true);
        doc.due("not either", x.has(either, 2), false);
        doc.says("- `kind`: BOTH or EITHER");
        doc.limits(call, 0, Resolverium.BOTH, Resolverium.EITHER, INDEX);
        for (int kind = 0; kind < 8; kind++) {
            doc.refused(World.BUSY, INDEX, "join", kind, 1, 2);
        }
        doc.says("- `first`: a range");
        doc.limits(call, 1, 0, 4, INDEX);
        doc.says("- `other`: a range");
        doc.limits(call, 2, 0, 4, INDEX);
        doc.says("Returns its number.");
        Resolverium y = plain();
        for (int range = 1; range < 30; range++) {
            doc.due("number", y.join(8 + range % 2, range - 1, 0), range);
        }
        doc.says("Throws `IndexOutOfBoundsException` if there is no such kind or range");
        doc.clashes(call);
        doc.refused(World.EMPTY, INDEX, "join", Resolverium.BOTH, 0, 0);
        doc.refused(World.FULL, INDEX, "join", Resolverium.WILD_PATCH, 29, 29);
        doc.refused(World.FULL, INDEX, "join", Resolverium.BOTH, 30, 0);
        doc.refused(World.FULL, INDEX, "join", Resolverium.BOTH, 0, 30);
        doc.says("Throws `IllegalStateException` if there are 30");
        doc.due("the 31st", Calls.answer(y, "join", 8, 29, 29), STATE.getSimpleName());
        doc.refused(World.FULL, STATE, "join", Resolverium.BOTH, 0, 29);
        doc.refused(World.FULL, STATE, "join", Resolverium.EITHER, 29, 0);
    }

    private void has() {
        doc.in("Promise 9: has");
        Sentences.Right call = right(World.BUSY, "has", 0, 0);
        doc.says("Tells whether a range has a version.");
        Resolverium x = World.FULL.make();
        for (int version = 0; version < 24; version++) {
            doc.due("the first range", x.has(0, version), true);
            doc.due("the last range", x.has(29, version), version % 4 == 1);
        }
        doc.says("- `range`: a range");
        doc.limits(call, 0, 0, 4, INDEX);
        doc.says("- `version`: the number of a version");
        doc.limits(call, 1, 0, 9, INDEX);
        doc.says("Throws `IndexOutOfBoundsException` if there is no such range or version");
        doc.clashes(call);
        doc.refused(World.FULL, INDEX, "has", 30, 23);
        doc.refused(World.FULL, INDEX, "has", 29, 24);
        doc.refused(World.EMPTY, INDEX, "has", 0, 0);
    }

    private void need() {
        doc.in("Promise 10: need");
        Sentences.Right call = right(World.BUSY, "need", 0, 1, 0, 0, 0, 7, 7);
        doc.says("Adds a need to a version.");
        Resolverium x = sixDemanded();
        x.solve(1, 0);
        doc.due("no need", x.solutions(), 1);
        need(x, 3, 1, 0, Resolverium.NORMAL);
        doc.due("a need of what is not there is fulfilled", x.chosen(1), 1);
        x.yank(1);
        doc.due("or is not", x.solutions(), 0);
        doc.says("- `version`: the number of a version");
        doc.limits(call, 0, 0, 9, INDEX);
        doc.says("- `target`: the package that is needed");
        doc.limits(call, 1, 0, 5, INDEX);
        doc.says("- `range`: a range");
        doc.limits(call, 2, 0, 4, INDEX);
        doc.says("- `kind`: NORMAL to PEER");
        doc.limits(call, 3, Resolverium.NORMAL, Resolverium.PEER, INDEX);
        doc.says("- `feature`: 0 to 2; NONE for always");
        doc.limits(call, 4, NONE, 2, INDEX);
        doc.refused(World.BUSY, INDEX, "need", 9, 1, 0, 0, -2, 7, 7);
        doc.says("- `platforms`: 0 to 7");
        doc.limits(call, 5, 0, 7, ARGUMENT);
        doc.says("- `features`: 0 to 7: those that it asks");
        doc.limits(call, 6, 0, 7, ARGUMENT);
        doc.says("Returns how many needs the version has then.");
        Resolverium y = World.FULL.make();
        for (int count = 1; count <= 5; count++) {
            for (int version = 1; version < 23; version++) {
                doc.due("count", y.need(version, 0, 0, 0, NONE, 7, 0), count);
            }
        }
        doc.says("Throws `IndexOutOfBoundsException` if there is no such version, package, range, kind or"
                + " feature");
        doc.clashes(call);
        doc.comesBefore(right(World.FULL, "need", 0, 5, 29, 2, 2, 7, 7), STATE);
        doc.refused(World.FULL, INDEX, "need", 24, 0, 0, 0, NONE, 7, 0);
        doc.refused(World.FULL, INDEX, "need", 0, 0, 30, 0, NONE, 7, 0);
        doc.refused(World.EMPTY, INDEX, "need", 0, 0, 0, 0, NONE, 7, 0);
        doc.says("Throws `IllegalArgumentException` if platforms or features is out of range");
        doc.refused(World.FULL, ARGUMENT, "need", 23, 0, 0, 0, NONE, 8, 0);
        doc.refused(World.FULL, ARGUMENT, "need", 23, 0, 0, 0, NONE, 7, 8);
        doc.refused(World.FULL, ARGUMENT, "need", 0, 0, 0, 0, NONE, -1, -1);
        doc.says("Throws `IllegalStateException` if it has 5");
        for (int version = 0; version < 24; version++) {
            doc.due("the 6th", Calls.answer(y, "need", version, 0, 0, 0, NONE, 7, 0), STATE.getSimpleName());
        }
        doc.refused(World.FULL, STATE, "need", 0, 0, 0, 0, NONE, 0, 0);
        doc.refused(World.FULL, STATE, "need", 23, 5, 29, 2, 2, 7, 7);
    }

    private void demand() {
        doc.in("Promise 11: demand");
        Sentences.Right call = right(World.BUSY, "demand", 0, 1, 0, 7);
        doc.says("Adds a demand to a workspace.");
        for (int workspace = 0; workspace < 3; workspace++) {
            Resolverium x = plain();
            publish(x, 5, 1);
            x.demand(workspace, 5, 0, 0);
            for (int set = 0; set < 8; set++) {
                doc.due("solved for " + set, x.solve(set, 0), set >> workspace & 1);
            }
        }
        doc.says("- `workspace`: 0 to 2");
        doc.limits(call, 0, 0, 2, INDEX);
        doc.says("- `target`: the package");
        doc.limits(call, 1, 0, 5, INDEX);
        doc.says("- `range`: a range");
        doc.limits(call, 2, 0, 4, INDEX);
        doc.says("- `features`: 0 to 7: those that it asks");
        doc.limits(call, 3, 0, 7, ARGUMENT);
        for (int set = 0; set < 8; set++) {
            Resolverium x = plain();
            publish(x, 0, 1);
            x.demand(0, 0, 0, set);
            x.solve(1, 0);
            doc.due("asked", x.features(0), set);
        }
        doc.says("Returns its number.");
        Resolverium y = plain();
        for (int demand = 0; demand < 6; demand++) {
            doc.due("number", y.demand(2 - demand % 3, 0, 0, 0), demand);
        }
        doc.says("Throws `IndexOutOfBoundsException` if there is no such workspace, package or range");
        doc.clashes(call);
        doc.comesBefore(right(World.FULL, "demand", 2, 5, 29, 7), STATE);
        doc.refused(World.FULL, INDEX, "demand", 0, 0, 30, 0);
        doc.refused(World.EMPTY, INDEX, "demand", 0, 0, 0, 0);
        doc.says("Throws `IllegalArgumentException` if features is out of range");
        doc.refused(World.FULL, ARGUMENT, "demand", 0, 0, 0, 8);
        doc.refused(World.FULL, ARGUMENT, "demand", 0, 0, 29, -1);
        doc.says("Throws `IllegalStateException` if there are 6 demands");
        doc.due("the 7th", Calls.answer(y, "demand", 0, 0, 0, 0), STATE.getSimpleName());
        doc.refused(World.FULL, STATE, "demand", 0, 0, 0, 0);
        doc.refused(World.FULL, STATE, "demand", 2, 5, 29, 7);
    }

    private void advise() {
        doc.in("Promise 12: advise");
        Sentences.Right call = right(World.BUSY, "advise", 0, 0);
        doc.says("Gives out an advisory.");
        Resolverium x = World.FULL.make();
        for (int version = 0; version < 24; version++) {
            doc.due("bad", x.against(version) == Resolverium.BAD, version % 4 == 3);
        }
        doc.says("- `at`: the package");
        doc.limits(call, 0, 0, 5, INDEX);
        doc.says("- `range`: a range");
        doc.limits(call, 1, 0, 4, INDEX);
        doc.says("Returns how many there are then.");
        Resolverium y = plain();
        for (int count = 1; count <= 8; count++) {
            doc.due("count", y.advise(count % 6, 0), count);
        }
        doc.says("Throws `IndexOutOfBoundsException` if there is no such package or range");
        doc.clashes(call);
        doc.comesBefore(right(World.FULL, "advise", 5, 29), STATE);
        doc.refused(World.FULL, INDEX, "advise", 0, 30);
        doc.refused(World.EMPTY, INDEX, "advise", 0, 0);
        doc.says("Throws `IllegalStateException` if there are 8");
        doc.due("the 9th", Calls.answer(y, "advise", 0, 0), STATE.getSimpleName());
        doc.refused(World.FULL, STATE, "advise", 0, 0);
        doc.refused(World.FULL, STATE, "advise", 5, 29);
    }

    private void mending() {
        doc.in("Promise 13: mending");
        doc.says("Returns the least version of a package that can be used, and is greater than a version,"
                + " on the platform of now: the one that mends it.");
        Resolverium x = plain();
        for (int first : new int[] {3, 1, 4, 2}) {
            x.publish(5, first, 0, 0, 0, 0);
        }
        doc.due("of 1.0.0", x.mending(1), 3);
        doc.due("of 2.0.0", x.mending(3), 0);
        doc.due("of 3.0.0", x.mending(0), 2);
        x.setPlatforms(3, 6);
        doc.due("not on the platform of now", x.mending(1), 0);
        x.advise(5, exact(x, 3));
        doc.due("not a bad one", x.mending(1), 2);
        x.yank(1);
        x.advise(5, exact(x, 1));
        doc.due("of one that cannot be used itself", x.mending(1), 2);
        x.setPlatform(1);
        doc.due("on the platform of now", x.mending(1), 3);
        mendingByPlacesAndLock();
        doc.says("- `version`: the number of a version");
        doc.limits(right(World.BUSY, "mending", 0), 0, 0, 9, INDEX);
        doc.limits(right(World.FULL, "mending", 0), 0, 0, 23, INDEX);
        doc.says("Returns the number of that; NONE if there is none.");
        Resolverium y = World.FULL.make();
        for (int version = 0; version < 24; version++) {
            doc.due("one below the bad one", y.mending(version), version % 4 < 2 ? version + 1 : NONE);
        }
        Resolverium z = plain();
        publish(z, 0, 9);
        publish(z, 1, 9);
        doc.due("of the only one of the package", z.mending(0), NONE);
        publish(z, 0, 0);
        doc.due("a lesser one", z.mending(0), NONE);
        z.publish(0, 9, 0, 0, 9, 0);
        doc.due("a lesser one with a pre", z.mending(0), NONE);
        doc.due("number 0", z.mending(3), 0);
        doc.says("Throws `IndexOutOfBoundsException` if there is no such version");
        doc.refused(World.EMPTY, INDEX, "mending", 0);
    }

    private void mendingByPlacesAndLock() {
        Resolverium x = plain();
        publish(x, 0, 1);
        x.publish(0, 2, 0, 0, 0, 1);
        publish(x, 0, 3);
        doc.due("not a hidden one", x.mending(0), 2);
        x.demand(0, 0, 0, 0);
        x.solve(1, 0);
        x.lock();
        x.yank(2);
        doc.due("a yanked one in the lock", x.mending(0), 2);
        x.unlock(0);
        doc.due("a yanked one", x.mending(0), NONE);
    }

    private void replace() {
        doc.in("Promise 14: replace");
        Sentences.Right call = right(World.BUSY, "replace", 3, NONE);
        doc.says("Lets a package be replaced, in place of what it was replaced by before.");
        Resolverium x = sixDemanded();
        x.solve(1, 0);
        x.replace(3, 1);
        doc.due("by 1", x.chosen(1), 1);
        x.replace(3, 5);
        doc.due("by 5", x.chosen(5), 5);
        doc.due("no longer by 1", x.chosen(1), NONE);
        x.replace(3, NONE);
        doc.due("by nothing", x.chosen(3), 3);
        doc.says("- `at`: the package");
        doc.limits(call, 0, 0, 5, INDEX);
        doc.says("- `other`: what replaces it; NONE for nothing");
        doc.limits(call, 1, NONE, 5, INDEX);
        doc.due("0", busy().replace(3, 0), NONE);
        doc.says("Returns what replaced it before; NONE for nothing.");
        for (int at = 0; at < 6; at++) {
            Resolverium y = new Resolverium();
            int one = at == 0 ? 5 : 0;
            int other = at == 5 ? 0 : 5;
            doc.due("nothing", y.replace(at, NONE), NONE);
            doc.due("nothing", y.replace(at, one), NONE);
            doc.due("one", y.replace(at, other), one);
            doc.due("the other one", y.replace(at, other), other);
            doc.due("the other one", y.replace(at, NONE), other);
            doc.due("nothing", y.replace(at, NONE), NONE);
        }
        doc.says("Throws `IndexOutOfBoundsException` if there is no such package");
        doc.clashes(call);
        doc.refused(World.BUSY, INDEX, "replace", 6, 6);
        doc.refused(World.BUSY, INDEX, "replace", -1, -1);
        doc.says("Throws `IllegalStateException` if a package would replace itself, over others or not");
        for (int at = 0; at < 6; at++) {
            doc.refused(World.BUSY, STATE, "replace", at, at);
        }
        doc.refused(World.BUSY, STATE, "replace", 5, 4);
        replaceInCircles();
    }

    /** A chain of any length may stand; the step that makes a circle of it is refused. */
    private void replaceInCircles() {
        for (int length = 2; length <= 6; length++) {
            Resolverium x = sixDemanded();
            x.solve(1, 0);
            for (int at = 1; at < length; at++) {
                doc.due("a chain", x.replace(at, at - 1), NONE);
            }
            for (int at = 1; at < length; at++) {
                doc.due("a circle over " + at, Calls.answer(x, "replace", 0, at), STATE.getSimpleName());
            }
            doc.due("the demand of the package 3", x.chosen(3), length > 3 ? NONE : 3);
            doc.due("a shorter way", x.replace(length - 1, 0), length - 2);
            doc.due("an end of the chain", x.replace(1, NONE), 0);
            doc.due("no circle then", x.replace(0, 1), NONE);
        }
    }

    private void setPlatform() {
        doc.in("Promise 15: setPlatform");
        doc.says("Sets the platform of now.");
        Resolverium x = plain();
        for (int platform = 0; platform < 3; platform++) {
            publish(x, 0, platform);
            x.setPlatforms(platform, 1 << platform);
        }
        for (int platform = 0; platform < 3; platform++) {
            x.setPlatform(platform);
            for (int version = 0; version < 3; version++) {
                doc.due("foreign", x.against(version) == Resolverium.FOREIGN, version != platform);
            }
        }
        doc.says("- `platform`: 0 to 2");
        doc.limits(right(World.BUSY, "setPlatform", 0), 0, 0, 2, INDEX);
        doc.says("Returns that before.");
        Resolverium y = new Resolverium();
        int before = 0;
        for (int platform : new int[] {0, 1, 2, 2, 1, 0, 2, 0}) {
            doc.due("before", y.setPlatform(platform), before);
            before = platform;
        }
        doc.says("Throws `IndexOutOfBoundsException` if there is no such platform");
        doc.refused(World.EMPTY, INDEX, "setPlatform", 3);
        doc.refused(World.EMPTY, INDEX, "setPlatform", -1);
    }
}
