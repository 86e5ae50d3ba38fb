import java.io.IOException;

/**
 * Promises 16 to 28, each sentence of the document by itself: the bounds of each argument on
 * both sides, the limits of what is returned, and each exception, with what a refused call leaves.
 */
public final class AskingBoundsTest extends DocumentBase {
    public static void main(String[] args) throws IOException {
        AskingBoundsTest test = new AskingBoundsTest();
        test.solve();
        test.chosen();
        test.chosenAnew();
        test.features();
        test.solutions();
        test.why();
        test.against();
        test.lock();
        test.unlock();
        test.install();
        test.spoil();
        test.onDisk();
        test.pending();
        test.doc.end();
    }

    private void solve() {
        doc.in("Promise 16: solve");
        Sentences.Right call = right(World.BUSY, "solve", 7, 63);
        doc.says("Solves for some workspaces, with some packages updated.");
        Resolverium x = plain();
        publish(x, 0, 1);
        publish(x, 5, 1);
        x.demand(0, 0, 0, 0);
        x.demand(2, 5, 0, 0);
        x.solve(5, 0);
        x.lock();
        publish(x, 0, 2);
        publish(x, 5, 2);
        int[][] due = {{1, 0, 0, NONE}, {1, 1, 2, NONE}, {4, 1, NONE, 1}, {4, 32, NONE, 3},
            {5, 1, 2, 1}, {5, 32, 0, 3}, {5, 33, 2, 3}, {5, 30, 0, 1}, {7, 63, 2, 3}, {2, 0, NONE, NONE}};
        for (int[] row : due) {
            x.solve(row[0], row[1]);
            doc.due("chosen of 0 for " + row[0] + ", " + row[1], x.chosen(0), row[2]);
            doc.due("chosen of 5 for " + row[0] + ", " + row[1], x.chosen(5), row[3]);
        }
        doc.says("- `workspaces`: 0 to 7, as a set");
        doc.limits(call, 0, 0, 7, ARGUMENT);
        doc.says("- `updated`: 0 to 63, as a set");
        doc.limits(call, 1, 0, 63, ARGUMENT);
        doc.says("Returns how many packages have a version in the best solution; NONE if there is no"
                + " solution.");
        for (int count = 0; count <= 6; count++) {
            Resolverium y = plain();
            for (int at = 0; at < count; at++) {
                publish(y, at, 1);
                y.demand(at % 3, at, 0, 0);
            }
            doc.due(count + " packages", y.solve(7, 0), count);
        }
        doc.due("without a solution", World.STUCK.make().solve(3, 0), NONE);
        doc.due("for others", World.STUCK.make().solve(2, 0), 1);
        doc.due("a demand without a version", noVersion().solve(1, 0), NONE);
        doc.due("which does not count", noVersion().solve(6, 0), 0);
        doc.says("Throws `IllegalArgumentException` if workspaces or updated is out of range");
        doc.clashes(call);
        doc.refused(World.STUCK, ARGUMENT, "solve", 8, 0);
        doc.refused(World.STUCK, ARGUMENT, "solve", 0, 64);
    }

    /** A world without versions, and a demand of the package 0 in the workspace 0. */
    private static Resolverium noVersion() {
        Resolverium x = plain();
        x.demand(0, 0, 0, 0);
        return x;
    }

    private void chosen() {
        doc.in("Promise 17: chosen");
        doc.says("Returns the version of a package in the best solution.");
        Resolverium x = World.FULL.make();
        for (int at = 0; at < 6; at++) {
            doc.due("the last that is not bad", x.chosen(at), 4 * at + 2);
        }
        doc.says("- `at`: the package");
        doc.limits(right(World.BUSY, "chosen", 0), 0, 0, 5, INDEX);
        doc.says("Returns its number; NONE if there is none, or no solution.");
        numbersAndNone("chosen");
        doc.says("Throws `IndexOutOfBoundsException` if there is no such package");
        doc.refused(World.EMPTY, INDEX, "chosen", 6);
        doc.refused(World.STUCK, INDEX, "chosen", -1);
    }

    private void chosenAnew() {
        doc.in("Promise 18: chosenAnew");
        doc.says("Returns the same, found by looking at all choices, one by one, from nothing.");
        for (World world : World.values()) {
            for (int at = 0; at < 6; at++) {
                doc.due("the same in " + world, world.make().chosenAnew(at), world.make().chosen(at));
            }
        }
        eachVersion();
        edgesOfAll();
        doc.says("- `at`: the package");
        doc.limits(right(World.BUSY, "chosenAnew", 0), 0, 0, 5, INDEX);
        doc.says("Returns its number; NONE if there is none, or no solution.");
        numbersAndNone("chosenAnew");
        doc.says("Throws `IndexOutOfBoundsException` if there is no such package");
        doc.refused(World.EMPTY, INDEX, "chosenAnew", 6);
        doc.refused(World.STUCK, INDEX, "chosenAnew", -1);
    }

    /** Each of four versions of each package, in whatever order they were published. */
    private void eachVersion() {
        int[][] orders = {{1, 2, 3, 4}, {4, 3, 2, 1}, {2, 4, 1, 3}, {3, 1, 4, 2}};
        for (int at = 0; at < 6; at++) {
            for (int[] order : orders) {
                Resolverium x = plain();
                for (int first : order) {
                    publish(x, at, first);
                }
                x.demand(0, at, 0, 0);
                x.solve(1, 0);
                for (int most = 4; most >= 0; most--) {
                    int version = NONE;
                    for (int i = 0; i < 4; i++) {
                        version = order[i] == most ? i : version;
                    }
                    doc.due("the greatest of " + most, x.chosen(at), version);
                    doc.due("the same anew", x.chosenAnew(at), version);
                    if (version != NONE) {
                        x.yank(version);
                    }
                }
            }
        }
    }

    /** The first and the last versions of all packages together. */
    private void edgesOfAll() {
        for (int edge = 0; edge < 2; edge++) {
            Resolverium x = plain();
            for (int version = 0; version < 24; version++) {
                publish(x, version / 4, edge == 0 ? version % 4 : 3 - version % 4);
            }
            for (int demand = 0; demand < 6; demand++) {
                x.demand(demand % 3, demand, 0, 0);
            }
            x.solve(7, 0);
            for (int at = 0; at < 6; at++) {
                doc.due("the greatest", x.chosen(at), 4 * at + (edge == 0 ? 3 : 0));
                doc.due("the same anew", x.chosenAnew(at), 4 * at + (edge == 0 ? 3 : 0));
            }
        }
    }

    private void numbersAndNone(String call) {
        for (int at = 0; at < 6; at++) {
            Resolverium x = World.FULL.make();
            doc.due("the last that is not bad", Calls.number(x, call, at), 4 * at + 2);
            x.yank(4 * at + 2);
            doc.due("by the lock", Calls.number(x, call, at), 4 * at + 2);
            x.unlock(at);
            doc.due("another one", Calls.number(x, call, at), 4 * at + 1);
            x.solve(0, 0);
            doc.due("none, as nothing is demanded", Calls.number(x, call, at), NONE);
            doc.due("no solution", Calls.number(World.STUCK.make(), call, at), NONE);
            doc.due("nothing at all", Calls.number(World.EMPTY.make(), call, at), NONE);
        }
    }

    private void features() {
        doc.in("Promise 19: features");
        doc.says("Returns the features of a package that are on in the best solution.");
        for (int at = 0; at < 6; at++) {
            for (int set = 0; set < 8; set++) {
                Resolverium x = plain();
                publish(x, at, 1);
                x.demand(0, at, 0, set);
                x.solve(1, 0);
                doc.due("features", x.features(at), set);
                doc.due("of another package", x.features((at + 1) % 6), 0);
            }
        }
        doc.says("- `at`: the package");
        doc.limits(right(World.BUSY, "features", 0), 0, 0, 5, INDEX);
        doc.says("Returns the set; 0 if the package has no version.");
        Resolverium y = plain();
        publish(y, 0, 1);
        y.need(0, 5, 0, Resolverium.OPTIONAL, NONE, 7, 7);
        y.demand(0, 0, 0, 7);
        doc.due("before it is solved", y.features(0), 0);
        y.solve(1, 0);
        doc.due("of one with a version", y.features(0), 7);
        doc.due("of one without a version, though asked", y.features(5), 0);
        publish(y, 5, 1);
        doc.due("of that with a version", y.features(5), 7);
        y.demand(0, 4, 0, 7);
        doc.due("without a solution", y.features(0), 0);
        doc.due("without a solution", y.features(4), 0);
        doc.says("Throws `IndexOutOfBoundsException` if there is no such package");
        doc.refused(World.EMPTY, INDEX, "features", 6);
        doc.refused(World.STUCK, INDEX, "features", -1);
    }

    private void solutions() {
        doc.in("Promise 20: solutions");
        doc.says("Returns how many solutions there are, 1000 if there are more.");
        doc.due("no solution", World.STUCK.make().solutions(), 0);
        doc.due("nothing at all", World.EMPTY.make().solutions(), 1);
        Resolverium x = plain();
        x.demand(0, 0, 0, 0);
        x.solve(1, 0);
        for (int count = 0; count <= 4; count++) {
            doc.due("as many as versions", x.solutions(), count);
            if (count < 4) {
                publish(x, 0, count);
            }
        }
        doc.due("625 + 320 + 54", manySolutions(54).solutions(), 999);
        Resolverium y = manySolutions(54);
        publish(y, 0, 4);
        doc.due("625 + 320 + 54 + 1", y.solutions(), 1000);
        need(y, 23, 1, 1, Resolverium.OPTIONAL);
        doc.due("625 + 320 + 54 + 2", y.solutions(), 1000);
        doc.due("625 + 320 + 250", manySolutions(250).solutions(), 1000);
        doc.due("625 + 320 + 1", manySolutions(1).solutions(), 946);
    }

    /**
     * A world in which the package 0 has 3 versions, each with OPTIONAL needs of the others: the
     * first one leaves 625, the second one 320 ways to choose these, the third one those told.
     */
    private static Resolverium manySolutions(int third) {
        Resolverium x = plain();
        for (int below = 2; below <= 5; below++) {
            x.range(Resolverium.BELOW, below, 0, 0, 0);
        }
        for (int first = 1; first <= 3; first++) {
            publish(x, 0, first);
        }
        for (int version = 3; version < 23; version++) {
            publish(x, 1 + (version - 3) / 4, 1 + (version - 3) % 4);
        }
        int[] waysOfThird = third == 250 ? new int[] {5, 5, 5, 2, 1}
                : third == 54 ? new int[] {3, 3, 3, 1, 2} : new int[] {1, 1, 1, 1, 1};
        int[][] ways = {{5, 5, 5, 5, 1}, {5, 4, 4, 4, 1}, waysOfThird};
        for (int version = 0; version < 3; version++) {
            for (int i = 0; i < 5; i++) {
                if (ways[version][i] > 1) {
                    need(x, version, i + 1, ways[version][i] - 1, Resolverium.OPTIONAL);
                }
            }
        }
        x.demand(0, 0, 0, 0);
        x.solve(1, 0);
        return x;
    }

    private void why() {
        doc.in("Promise 21: why");
        doc.says("Returns the fewest demands, of those that count, for which there is no solution if they"
                + " alone count; of several sets with as many the one that is the least number, bit d for"
                + " the demand d; 0 if there is a solution for all that count.");
        doc.due("no demand", World.EMPTY.make().why(), 0);
        for (int demand = 0; demand < 6; demand++) {
            Resolverium x = plain();
            publish(x, 0, 1);
            for (int i = 0; i < 6; i++) {
                x.demand(i % 3, i == demand ? 5 : 0, 0, 0);
            }
            doc.due("none counts", x.why(), 0);
            x.solve(7, 0);
            doc.due("one without a version", x.why(), 1 << demand);
            x.solve(7 ^ 1 << demand % 3, 0);
            doc.due("which does not count", x.why(), 0);
            publish(x, 5, 1);
            x.solve(7, 0);
            doc.due("a solution", x.why(), 0);
        }
        for (int length = 1; length <= 6; length++) {
            Resolverium x = onlyAllTogether(length);
            doc.due("all of " + length, x.why(), (1 << length) - 1);
            doc.due("and no solution", x.solutions(), 0);
        }
        leastNumbers();
        peers();
    }

    /** A world in which the demands of all of the first packages have no solution, but fewer have. */
    private static Resolverium onlyAllTogether(int length) {
        Resolverium x = plain();
        int two = exact(x, 2);
        for (int at = 0; at < length; at++) {
            int version = publish(x, at, 2);
            need(x, version, (at + 1) % length, at + 1 < length ? two : exact(x, 9), Resolverium.OPTIONAL);
            if (at > 0) {
                publish(x, at, 1);
            }
            x.demand(at % 3, at, 0, 0);
        }
        x.solve(7, 0);
        return x;
    }

    private void leastNumbers() {
        int[][] pairs = {{0, 3, 1, 2}, {0, 1, 2, 3}, {2, 3, 0, 5}, {0, 4, 1, 5}, {4, 5, 3, 2}, {0, 5, 3, 4}};
        for (int[] pair : pairs) {
            Resolverium x = plain();
            int one = exact(x, 1);
            int two = exact(x, 2);
            for (int version = 0; version < 6; version++) {
                publish(x, version / 2, 1 + version % 2);
            }
            for (int demand = 0; demand < 6; demand++) {
                boolean isFirst = demand == pair[0] || demand == pair[1];
                boolean isSecond = demand == pair[2] || demand == pair[3];
                int range = demand == pair[0] || demand == pair[2] ? one : two;
                x.demand(demand % 3, isFirst ? 0 : isSecond ? 1 : 2, isFirst || isSecond ? range : 0, 0);
            }
            x.solve(7, 0);
            int first = 1 << pair[0] | 1 << pair[1];
            int second = 1 << pair[2] | 1 << pair[3];
            doc.due("the least of two pairs", x.why(), Math.min(first, second));
        }
        Resolverium y = plain();
        publish(y, 0, 1);
        publish(y, 0, 2);
        int one = exact(y, 1);
        y.demand(0, 0, one, 0);
        y.demand(0, 0, exact(y, 2), 0);
        y.demand(1, 5, 0, 0);
        y.solve(3, 0);
        doc.due("one before two with a lesser number", y.why(), 4);
    }

    /** A PEER need lets a demand alone have no solution where it has one with another demand. */
    private void peers() {
        Resolverium x = plain();
        publish(x, 0, 1);
        publish(x, 1, 1);
        publish(x, 2, 1);
        need(x, 0, 1, 0, Resolverium.PEER);
        need(x, 0, 2, 0, Resolverium.PEER);
        x.demand(0, 0, 0, 0);
        x.demand(0, 1, 0, 0);
        x.demand(1, 2, 0, 0);
        x.solve(3, 0);
        doc.due("a solution for all", x.why(), 0);
        x.solve(1, 0);
        doc.due("the one that lacks a peer", x.why(), 1);
        x.solve(2, 0);
        doc.due("without that one", x.why(), 0);
    }

    private void against() {
        doc.in("Promise 22: against");
        doc.says("Tells what is against a version.");
        Resolverium x = World.FULL.make();
        for (int version = 0; version < 24; version++) {
            int i = version % 4;
            doc.due("version " + version, x.against(version), i == 3 ? Resolverium.BAD
                    : i == 2 ? Resolverium.FINE : Resolverium.PASSED_OVER);
        }
        doc.says("- `version`: the number of a version");
        doc.limits(right(World.BUSY, "against", 0), 0, 0, 9, INDEX);
        doc.limits(right(World.FULL, "against", 0), 0, 0, 23, INDEX);
        doc.says("Returns FINE to PASSED_OVER.");
        oneOfEach();
        doc.says("Throws `IndexOutOfBoundsException` if there is no such version");
        doc.refused(World.EMPTY, INDEX, "against", 0);
        doc.refused(World.STUCK, INDEX, "against", 2);
    }

    private void oneOfEach() {
        Resolverium x = plain();
        for (int first = 1; first <= 4; first++) {
            publish(x, 0, first);
            publish(x, 1, first);
        }
        x.publish(2, 1, 0, 0, 0, 1);
        publish(x, 2, 2);
        x.demand(0, 0, x.range(Resolverium.AT_LEAST, 2, 0, 0, 0), 0);
        need(x, 2, 5, 0, Resolverium.NORMAL);
        x.yank(1);
        x.setPlatforms(3, 2);
        x.advise(1, exact(x, 3));
        x.solve(1, 0);
        int[] due = {Resolverium.REFUSED, Resolverium.YANKED, Resolverium.IMPOSSIBLE, Resolverium.FOREIGN,
            Resolverium.PASSED_OVER, Resolverium.BAD, Resolverium.FINE, Resolverium.IMPOSSIBLE,
            Resolverium.HIDDEN, Resolverium.IMPOSSIBLE};
        for (int version = 0; version < 10; version++) {
            doc.due("version " + version, x.against(version), due[version]);
        }
    }

    private void lock() {
        doc.in("Promise 23: lock");
        doc.says("Locks the best solution: the lock has its versions, and no others.");
        Resolverium x = sixDemanded();
        for (int set = 0; set < 8; set++) {
            x.solve(set, 0);
            x.lock();
            for (int at = 0; at < 6; at++) {
                doc.due("the lock", x.unlock(at), (set >> at % 3 & 1) == 1 ? at : NONE);
            }
        }
        doc.says("Returns for how many packages it has another version then, one more, or one less.");
        for (int count = 0; count <= 6; count++) {
            Resolverium y = plain();
            for (int at = 0; at < count; at++) {
                publish(y, at, 1);
                y.demand(1, at, 0, 0);
            }
            y.solve(2, 63);
            doc.due("so many more", y.lock(), count);
            doc.due("the same", y.lock(), 0);
            for (int at = 0; at < count; at++) {
                publish(y, at, 2);
            }
            doc.due("so many others", y.lock(), count);
            y.solve(1, 63);
            doc.due("so many less", y.lock(), count);
            doc.due("none", y.lock(), 0);
        }
        lockOfAllThree();
        doc.says("Throws `IllegalStateException` if there is no solution");
        doc.refused(World.STUCK, STATE, "lock");
        Resolverium z = World.STUCK.make();
        doc.due("no solution", Calls.answer(z, "lock"), STATE.getSimpleName());
        doc.due("the lock before", z.unlock(0), 0);
        doc.due("the lock before", z.unlock(1), 1);
        doc.due("nothing else", z.unlock(2), NONE);
        doc.due("a solution of nothing", World.EMPTY.make().lock(), 0);
    }

    private void lockOfAllThree() {
        Resolverium x = plain();
        for (int at = 0; at < 4; at++) {
            publish(x, at, 1);
        }
        x.demand(0, 0, 0, 0);
        x.demand(1, 1, 0, 0);
        x.demand(2, 2, 0, 0);
        x.demand(0, 3, 0, 0);
        x.solve(3, 0);
        doc.due("three more", x.lock(), 3);
        publish(x, 0, 2);
        x.solve(5, 1);
        doc.due("another one, one less, one more, one the same", x.lock(), 3);
    }

    private void unlock() {
        doc.in("Promise 24: unlock");
        doc.says("Takes a package out of the lock.");
        for (int at = 0; at < 6; at++) {
            Resolverium x = sixDemanded();
            x.solve(7, 0);
            x.lock();
            for (int i = 0; i < 6; i++) {
                publish(x, i, 2);
            }
            x.unlock(at);
            for (int i = 0; i < 6; i++) {
                doc.due("no longer by the lock", x.chosen(i), i == at ? 6 + i : i);
            }
        }
        doc.says("- `at`: the package");
        doc.limits(right(World.BUSY, "unlock", 0), 0, 0, 5, INDEX);
        doc.says("Returns the version that it had in it; NONE if it had none.");
        Resolverium y = World.FULL.make();
        for (int at = 0; at < 6; at++) {
            doc.due("the version", y.unlock(at), 4 * at + 2);
            doc.due("none", y.unlock(at), NONE);
            doc.due("none in a new lock", World.EMPTY.make().unlock(at), NONE);
        }
        doc.says("Throws `IndexOutOfBoundsException` if there is no such package");
        doc.refused(World.EMPTY, INDEX, "unlock", 6);
        doc.refused(World.FULL, INDEX, "unlock", -1);
    }

    private void install() {
        doc.in("Promise 25: install");
        Sentences.Right call = right(World.BUSY, "install", 1);
        doc.says("Installs the best solution.");
        for (int set = 0; set < 8; set++) {
            Resolverium x = sixDemanded();
            x.solve(set, 0);
            x.install(10);
            for (int at = 0; at < 6; at++) {
                doc.due("on the disk", x.onDisk(at) != NONE, (set >> at % 3 & 1) == 1);
            }
            doc.due("the lock is another thing", x.unlock(0), NONE);
        }
        doc.says("- `steps`: 1 to 10: after so many it is cut off");
        doc.limits(call, 0, 1, 10, ARGUMENT);
        for (int steps = 1; steps <= 10; steps++) {
            Resolverium x = sixDemanded();
            x.solve(7, 0);
            doc.due("made of " + steps, x.install(steps), Math.min(steps, 6));
            for (int at = 0; at < 6; at++) {
                doc.due("put by " + steps, x.onDisk(at) != NONE, at < steps);
            }
        }
        doc.says("Returns how many steps were made.");
        Resolverium y = sixDemanded();
        doc.due("nothing is there, and nothing is to be", y.install(10), 0);
        y.solve(7, 0);
        for (int i = 0; i < 6; i++) {
            doc.due("one by one", y.install(1), 1);
        }
        doc.due("all is there", y.install(1), 0);
        doc.due("all is there", y.install(10), 0);
        y.solve(0, 0);
        doc.due("all but one are taken off", y.install(5), 5);
        doc.due("and the last one", y.install(5), 1);
        doc.says("Throws `IllegalArgumentException` if steps is out of range");
        doc.comesBefore(right(World.STUCK, "install", 1), STATE);
        doc.refused(World.STUCK, ARGUMENT, "install", 0);
        doc.refused(World.STUCK, ARGUMENT, "install", 11);
        doc.says("Throws `IllegalStateException` if there is no solution");
        doc.refused(World.STUCK, STATE, "install", 1);
        doc.refused(World.STUCK, STATE, "install", 10);
        Resolverium z = World.STUCK.make();
        doc.due("no solution", Calls.answer(z, "install", 10), STATE.getSimpleName());
        doc.due("the disk before", z.onDisk(0), 8);
        doc.due("nothing else", z.onDisk(1), NONE);
    }

    private void spoil() {
        doc.in("Promise 26: spoil");
        doc.says("Adds 1 to the sum of a package on the disk.");
        for (int at = 0; at < 6; at++) {
            Resolverium x = sixDemanded();
            x.solve(7, 0);
            x.install(10);
            x.spoil(at);
            for (int i = 0; i < 6; i++) {
                doc.due("on the disk", x.onDisk(i), 10000 * i + 31 * i + 8 + (i == at ? 1 : 0));
            }
        }
        doc.says("- `at`: the package");
        doc.limits(right(World.BUSY, "spoil", 0), 0, 0, 5, INDEX);
        doc.says("Returns the sum then.");
        Resolverium y = plain();
        y.publish(0, 0, 0, 0, 0, 0);
        y.demand(0, 0, 0, 0);
        y.solve(1, 0);
        y.install(1);
        for (int sum = 2; sum <= 500; sum++) {
            doc.due("sum", y.spoil(0), sum);
        }
        doc.due("on the disk", y.onDisk(0), 500);
        y.install(1);
        doc.due("put right, and wrong again", y.spoil(0), 2);
        doc.says("Throws `IndexOutOfBoundsException` if there is no such package");
        doc.refused(World.EMPTY, INDEX, "spoil", 6);
        doc.refused(World.EMPTY, INDEX, "spoil", -1);
        doc.says("Throws `IllegalStateException` if it is not on the disk");
        for (int at = 0; at < 6; at++) {
            doc.refused(World.EMPTY, STATE, "spoil", at);
        }
        doc.refused(World.STUCK, STATE, "spoil", 1);
        Resolverium z = World.STUCK.make();
        z.solve(4, 0);
        doc.due("still there", z.spoil(0), 9);
        doc.due("taken off", z.install(1), 1);
        doc.due("not there any more", Calls.answer(z, "spoil", 0), STATE.getSimpleName());
    }

    private void onDisk() {
        doc.in("Promise 27: onDisk");
        doc.says("Returns what the disk has of a package.");
        Resolverium x = World.FULL.make();
        for (int at = 0; at < 6; at++) {
            int version = 4 * at + 2;
            doc.due("what it has", x.onDisk(at), at < 3 ? 10000 * version + 31 * version + 22 : NONE);
        }
        doc.says("- `at`: the package");
        doc.limits(right(World.BUSY, "onDisk", 0), 0, 0, 5, INDEX);
        doc.says("Returns 10000 times the number of the version, and the sum, together; NONE if it is not"
                + " there.");
        Resolverium y = plain();
        y.range(Resolverium.EXACT, 9, 9, 9, 9);
        y.publish(0, 0, 0, 0, 0, 0);
        y.demand(0, 0, 0, 0);
        y.solve(1, 0);
        doc.due("not there yet", y.onDisk(0), NONE);
        y.install(1);
        doc.due("the least one", y.onDisk(0), 1);
        for (int version = 1; version < 24; version++) {
            y.publish(version / 4, 9, 9, 9, version == 23 ? 9 : version % 4, 0);
        }
        y.demand(1, 5, 1, 0);
        y.solve(2, 0);
        y.install(10);
        doc.due("the greatest one", y.onDisk(5), 230000 + 713 + 63 + 45 + 27 + 9 + 1);
        doc.due("not there any more", y.onDisk(0), NONE);
        y.spoil(5);
        doc.due("a wrong sum", y.onDisk(5), 230859);
        doc.says("Throws `IndexOutOfBoundsException` if there is no such package");
        doc.refused(World.EMPTY, INDEX, "onDisk", 6);
        doc.refused(World.STUCK, INDEX, "onDisk", -1);
    }

    private void pending() {
        doc.in("Promise 28: pending");
        doc.says("Returns how many steps an install would make that is not cut off; NONE if there is no"
                + " solution.");
        doc.due("no solution", World.STUCK.make().pending(), NONE);
        doc.due("nothing", World.EMPTY.make().pending(), 0);
        Resolverium x = sixDemanded();
        x.solve(7, 0);
        for (int left = 6; left > 0; left--) {
            doc.due("to put", x.pending(), left);
            doc.due("asking again", x.pending(), left);
            x.install(1);
        }
        doc.due("all is there", x.pending(), 0);
        for (int at = 0; at < 6; at++) {
            x.spoil(at);
            doc.due("to put right", x.pending(), at + 1);
        }
        doc.due("as install makes", x.install(10), 6);
        publish(x, 5, 2);
        doc.due("another version", x.pending(), 1);
        x.solve(0, 0);
        for (int left = 6; left > 0; left--) {
            doc.due("to take off", x.pending(), left);
            x.install(1);
        }
        doc.due("nothing is there", x.pending(), 0);
    }
}
