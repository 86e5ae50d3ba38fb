import java.io.IOException;

/** The document's terms from 'Solutions' on, each sentence by itself. */
public final class SolutionsTest extends DocumentBase {
    private static final int NORMAL = Resolverium.NORMAL;
    private static final int OPTIONAL = Resolverium.OPTIONAL;
    private static final int PEER = Resolverium.PEER;

    public static void main(String[] args) throws IOException {
        SolutionsTest test = new SolutionsTest();
        test.usable();
        test.choices();
        test.featuresThatAreOn();
        test.needsThatCount();
        test.conditions();
        test.pulled();
        test.fewestChanges();
        test.packageByPackage();
        test.solvedLast();
        test.against();
        test.sums();
        test.installing();
        test.constants();
        test.doc.end();
    }

    /** One version 1.0.0 of each package, with the number of its package; the range 1 is 1.0.0. */
    private static Resolverium six() {
        Resolverium x = plain();
        exact(x, 1);
        for (int at = 0; at < 6; at++) {
            publish(x, at, 1);
        }
        return x;
    }

    /** What is chosen, which must be the same if all choices are looked at. */
    private int best(Resolverium x, int at) {
        int version = x.chosen(at);
        doc.due("the package " + at + ", found anew", x.chosenAnew(at), version);
        return version;
    }

    private void usable() {
        doc.in("Solutions");
        doc.says("A version can be used, unless one of these is against it, the first one counts: HIDDEN, it was"
                + " published at the place 1, and some version of its package at the place 0; YANKED, it was"
                + " yanked, and is not in the lock, be its package updated or not; FOREIGN, its set of platforms"
                + " does not have that of now; BAD, an advisory is for its package with a range that has it.");
        for (int flaws = 0; flaws < 16; flaws++) {
            Resolverium x = plain();
            publish(x, 0, 1);
            x.publish(0, 2, 0, 0, 0, flaws & 1);
            x.demand(0, 0, 0, 0);
            x.solve(1, 0);
            if ((flaws & 2) != 0) {
                x.yank(1);
            }
            if ((flaws & 4) != 0) {
                x.setPlatforms(1, 6);
            }
            if ((flaws & 8) != 0) {
                x.advise(0, exact(x, 2));
            }
            int due = (flaws & 1) != 0 ? Resolverium.HIDDEN : (flaws & 2) != 0 ? Resolverium.YANKED
                    : (flaws & 4) != 0 ? Resolverium.FOREIGN : flaws != 0 ? Resolverium.BAD : Resolverium.FINE;
            doc.due("against one with " + flaws, x.against(1), due);
            doc.due("chosen with " + flaws, best(x, 0), flaws == 0 ? 1 : 0);
            doc.due("what mends the other one", x.mending(0), flaws == 0 ? 1 : NONE);
        }
        hidden();
        yanked();
        foreign();
        bad();
    }

    private void hidden() {
        Resolverium x = plain();
        x.publish(0, 2, 0, 0, 0, 1);
        x.publish(0, 3, 0, 0, 0, 1);
        publish(x, 1, 1);
        x.demand(0, 0, 0, 0);
        x.solve(1, 0);
        doc.due("none at the place 0", best(x, 0), 1);
        x.lock();
        publish(x, 0, 1);
        doc.due("one at the place 0", best(x, 0), 3);
        doc.due("though the other one is in the lock", x.against(1), Resolverium.HIDDEN);
        x.yank(3);
        doc.due("though that is yanked", x.against(0), Resolverium.HIDDEN);
        x.setPlatforms(3, 0);
        x.advise(0, exact(x, 1));
        doc.due("and foreign and bad", x.against(1), Resolverium.HIDDEN);
        doc.due("none can be used", x.solutions(), 0);
    }

    private void yanked() {
        for (int updated = 0; updated < 64; updated += 21) {
            Resolverium x = six();
            for (int at = 0; at < 6; at++) {
                publish(x, at, 2);
                x.demand(0, at, 0, 0);
            }
            x.solve(1, 0);
            x.lock();
            x.solve(1, updated);
            for (int at = 0; at < 6; at++) {
                x.yank(at);
                x.yank(6 + at);
                doc.due("yanked", x.against(at), Resolverium.YANKED);
                doc.due("yanked, in the lock", x.against(6 + at), Resolverium.FINE);
                x.unlock(at);
                doc.due("yanked, out of the lock", x.against(6 + at), Resolverium.YANKED);
                x.yank(at);
            }
            doc.due("those that are not yanked", best(x, 5), 5);
        }
        Resolverium y = six();
        y.demand(0, 0, 0, 0);
        y.demand(1, 1, 0, 0);
        y.solve(1, 0);
        y.lock();
        y.yank(1);
        doc.due("in the lock is another package", y.against(1), Resolverium.YANKED);
    }

    private void foreign() {
        for (int set = 0; set < 8; set++) {
            Resolverium x = six();
            x.setPlatforms(5, set);
            x.demand(0, 5, 0, 0);
            for (int platform = 0; platform < 3; platform++) {
                boolean fits = (set >> platform & 1) == 1;
                x.setPlatform(platform);
                doc.due("of the set " + set, x.solve(1, 0), fits ? 1 : NONE);
                doc.due("against", x.against(5), fits ? Resolverium.FINE : Resolverium.FOREIGN);
            }
        }
    }

    private void bad() {
        for (int at = 0; at < 6; at++) {
            Resolverium x = six();
            for (int i = 0; i < 6; i++) {
                publish(x, i, 2);
            }
            x.advise(at, exact(x, 3));
            doc.due("another range", x.against(at), Resolverium.IMPOSSIBLE);
            x.advise(at, 1);
            for (int version = 0; version < 12; version++) {
                doc.due("the version", x.against(version) == Resolverium.BAD, version == at);
            }
        }
        Resolverium y = six();
        for (int advisory = 1; advisory < 8; advisory++) {
            y.advise(0, 1);
        }
        y.advise(5, 1);
        doc.due("the eighth one", y.against(5), Resolverium.BAD);
    }

    private void choices() {
        doc.says("A choice has, for each package, a version of it that can be used, or none.");
        Resolverium x = six();
        doc.due("none of all", x.solutions(), 1);
        for (int at = 1; at < 6; at++) {
            need(x, 0, at, 0, OPTIONAL);
        }
        x.demand(0, 0, 0, 0);
        x.solve(1, 0);
        doc.due("a version of each", x.solutions(), 32);
        int left = 32;
        for (int at = 1; at < 6; at++) {
            x.yank(at);
            left /= 2;
            doc.due("without one that cannot be used", x.solutions(), left);
        }
        x.yank(0);
        doc.due("and the last one", x.solutions(), 0);
    }

    private void featuresThatAreOn() {
        doc.says("The features that are on, of a package with a version, are the least ones so that these are on: those"
                + " that are asked by a demand of the workspaces that count, and by a need that counts, of that"
                + " package; and what a feature that is on brings by that version.");
        askedByDemands();
        askedByNeeds();
        leastOnes();
        Resolverium x = six();
        for (int at = 0; at < 6; at++) {
            for (int feature = 0; feature < 3; feature++) {
                x.need(at, (at + (feature == 2 ? 1 : 0)) % 6, 0, NORMAL, feature, 7,
                        1 << (feature + 1) % 3);
            }
        }
        x.demand(0, 0, 0, 0);
        doc.due("nothing starts the long chain", x.solve(1, 0), 1);
        x.demand(0, 0, 0, 1);
        doc.due("one feature starts it", x.solve(1, 0), 6);
        for (int at = 0; at < 6; at++) {
            doc.due("all on", x.features(at), 7);
            doc.due("the package " + at, best(x, at), at);
        }
        chainsOfFeatures();
        featuresOfTheBest();
    }

    /** Each package asks features of the one that is `step` further, in the end of the last one. */
    private void chainsOfFeatures() {
        for (int step = 1; step < 6; step += 4) {
            for (int inside = 0; inside < 2; inside++) {
                Resolverium x = six();
                for (int at = 0; at < 6; at++) {
                    if (inside == 1) {
                        x.bring(at, 0, 1);
                        x.bring(at, 1, 2);
                    }
                    if (at != (step == 1 ? 5 : 0)) {
                        x.need(at, (at + step) % 6, 0, NORMAL, inside == 1 ? 2 : 0, 7, 1);
                    }
                }
                x.demand(0, step == 1 ? 0 : 5, 0, 1);
                doc.due("all of them", x.solve(1, 0), 6);
                for (int at = 0; at < 6; at++) {
                    doc.due("features", x.features(at), inside == 1 ? 7 : 1);
                    doc.due("the package " + at, best(x, at), at);
                }
            }
        }
        Resolverium y = six();
        need(y, 5, 4, 0, NORMAL);
        y.need(5, 3, 0, NORMAL, 0, 7, 1);
        y.need(5, 2, 0, NORMAL, 0, 7, 1);
        y.need(3, 1, 0, NORMAL, 0, 7, 1);
        y.need(2, 0, 0, NORMAL, 0, 7, 1);
        y.need(1, 4, 0, NORMAL, 0, 7, 2);
        y.need(0, 4, 0, NORMAL, 0, 7, 4);
        y.demand(0, 5, 0, 1);
        doc.due("on two ways at once", y.solve(1, 0), 6);
        doc.due("both come to their end", y.features(4), 6);
        Resolverium z = six();
        z.bring(0, 0, 2);
        z.bring(0, 1, 2);
        z.demand(0, 0, 0, 3);
        z.solve(1, 0);
        doc.due("one that two bring", z.features(0), 7);
    }

    /** The features are those of the best solution, not of one that was looked at before or after. */
    private void featuresOfTheBest() {
        Resolverium x = six();
        publish(x, 0, 2);
        publish(x, 0, 3);
        for (int at = 0; at < 3; at++) {
            x.demand(0, at, 0, 0);
        }
        x.yank(6);
        x.yank(7);
        x.solve(1, 0);
        x.lock();
        x.yank(6);
        x.yank(7);
        x.yank(0);
        x.unlock(0);
        x.bring(7, 0, 1);
        x.need(7, 1, 0, NORMAL, NONE, 7, 4);
        x.need(6, 1, 0, NORMAL, NONE, 7, 2);
        doc.due("of the greatest version", x.features(1), 4);
        publish(x, 1, 2);
        need(x, 7, 1, exact(x, 2), NORMAL);
        doc.due("of the one that changes the lock less", best(x, 0), 6);
        doc.due("of that one", x.features(1), 2);
        doc.due("not of the other one", x.features(0), 0);
        x.setPlatforms(2, 6);
        publish(x, 2, 2);
        doc.due("though another locked one is lost", x.features(1), 2);
        x.solve(1, 2);
        doc.due("of the greatest version, updated", x.features(1), 4);
    }

    private void askedByDemands() {
        for (int set = 0; set < 8; set++) {
            Resolverium x = six();
            for (int workspace = 0; workspace < 3; workspace++) {
                x.demand(workspace, 0, 0, 1 << workspace);
                x.demand(workspace, 1, 0, 7 ^ 1 << workspace);
            }
            x.solve(set, 0);
            doc.due("of the workspaces " + set, x.features(0), set);
            int rest = 0;
            for (int workspace = 0; workspace < 3; workspace++) {
                rest |= (set >> workspace & 1) == 1 ? 7 ^ 1 << workspace : 0;
            }
            doc.due("of another package", x.features(1), rest);
        }
    }

    private void askedByNeeds() {
        for (int kind = NORMAL; kind <= PEER; kind++) {
            for (int set = 0; set < 8; set++) {
                Resolverium x = six();
                x.need(0, 1, 0, kind, NONE, 7, set);
                x.need(0, 1, 0, kind, NONE, 6, 7);
                x.need(0, 1, 0, kind, 2, 7, 7);
                x.demand(0, 0, 0, 3);
                x.demand(0, 1, 0, 0);
                x.solve(1, 0);
                doc.due("kind " + kind + " asks", x.features(1), set);
                doc.due("and not of itself", x.features(0), 3);
            }
        }
        Resolverium y = six();
        publish(y, 0, 2);
        y.need(0, 1, 0, NORMAL, NONE, 7, 7);
        y.need(6, 1, 0, NORMAL, NONE, 7, 4);
        y.demand(0, 0, 0, 0);
        y.solve(1, 0);
        doc.due("by the version in the choice", y.features(1), 4);
        y.demand(0, 0, 1, 0);
        doc.due("by the other one", y.features(1), 7);
    }

    private void leastOnes() {
        Resolverium x = six();
        x.bring(0, 0, 1);
        x.bring(0, 1, 0);
        x.need(0, 0, 0, NORMAL, 2, 7, 4);
        x.need(0, 1, 0, NORMAL, 2, 7, 1);
        x.need(1, 0, 0, NORMAL, 0, 7, 4);
        x.demand(0, 0, 0, 0);
        x.demand(1, 1, 0, 0);
        x.solve(3, 0);
        doc.due("none by themselves", x.features(0), 0);
        doc.due("none by one another", x.features(1), 0);
        x.demand(0, 0, 0, 2);
        doc.due("one that is asked, and what it brings", x.features(0), 3);
        doc.due("no other ones", x.features(1), 0);
        x.demand(1, 1, 0, 1);
        doc.due("all by one of the other package", x.features(0), 7);
        doc.due("which was asked", x.features(1), 1);
        Resolverium y = six();
        publish(y, 0, 2);
        y.bring(0, 0, 1);
        y.bring(6, 0, 2);
        y.demand(0, 0, 0, 1);
        y.solve(1, 0);
        doc.due("brought by that version", y.features(0), 5);
        y.yank(6);
        doc.due("brought by the other version", y.features(0), 3);
    }

    private void needsThatCount() {
        doc.says("A need of a version in the choice counts, if its set of platforms has that of now, and its feature"
                + " is NONE, or on.");
        for (int set = 0; set < 8; set++) {
            for (int feature = NONE; feature < 3; feature++) {
                Resolverium x = six();
                x.need(0, 1, 0, NORMAL, feature, set, 0);
                for (int on = 0; on < 3; on++) {
                    x.demand(on, 0, 0, 1 << on);
                }
                for (int platform = 0; platform < 3; platform++) {
                    for (int on = 1; on < 8; on++) {
                        x.setPlatform(platform);
                        x.solve(on, 0);
                        boolean counts = (set >> platform & 1) == 1 && (feature == NONE || (on >> feature & 1) == 1);
                        doc.due("platforms " + set + ", feature " + feature + ", on " + on,
                                best(x, 1), counts ? 1 : NONE);
                    }
                }
            }
        }
        Resolverium y = six();
        publish(y, 0, 2);
        need(y, 0, 1, 0, NORMAL);
        y.demand(0, 0, 0, 0);
        y.solve(1, 0);
        doc.due("a need of another version", best(y, 1), NONE);
        doc.says("(An OPTIONAL need of a package without a version asks nothing.)");
        Resolverium z = plain();
        publish(z, 0, 1);
        publish(z, 1, 2);
        z.need(0, 1, exact(z, 1), OPTIONAL, NONE, 7, 7);
        z.need(1, 2, 0, NORMAL, 0, 7, 7);
        z.demand(0, 0, 0, 0);
        doc.due("out of its range", z.solve(1, 0), 1);
        doc.due("no version", best(z, 1), NONE);
        doc.due("no features", z.features(1), 0);
        doc.due("nor of what that would need", z.features(2), 0);
        publish(z, 1, 1);
        doc.due("in its range", z.features(1), 7);
    }

    private void conditions() {
        doc.says("A choice is a solution if: each demand that counts is for a package with a version, which is in its"
                + " range;");
        for (int one = 1; one <= 3; one++) {
            for (int other = 1; other <= 3; other++) {
                Resolverium x = plain();
                publish(x, 0, 1);
                publish(x, 0, 2);
                publish(x, 1, 3);
                x.demand(0, 0, exact(x, one), 0);
                x.demand(1, 0, exact(x, other), 0);
                doc.due("for one", x.solve(1, 0), one < 3 ? 1 : NONE);
                doc.due("the version for one", best(x, 0), one < 3 ? one - 1 : NONE);
                doc.due("for the other one", x.solve(2, 0), other < 3 ? 1 : NONE);
                doc.due("for both", x.solve(3, 0), one == other && one < 3 ? 1 : NONE);
                doc.due("the version for both", best(x, 0), one == other && one < 3 ? one - 1 : NONE);
                doc.due("for none", x.solve(4, 0), 0);
            }
        }
        doc.says("each need that counts, NORMAL or PEER, is of a package with a version, which is in its range;");
        needOfTarget(NORMAL, true);
        needOfTarget(PEER, false);
        doc.says("each OPTIONAL need that counts is of a package without a version, or with one that is in its"
                + " range;");
        needOfTarget(OPTIONAL, true);
        Resolverium x = six();
        need(x, 0, 1, exact(x, 2), OPTIONAL);
        x.demand(0, 0, 0, 0);
        doc.due("without a version", x.solve(1, 0), 1);
        doc.due("by no other solution", x.solutions(), 1);
        x.demand(0, 1, 0, 0);
        doc.due("with one out of its range", x.solve(1, 0), NONE);
        Resolverium y = six();
        need(y, 0, 0, exact(y, 2), OPTIONAL);
        y.demand(0, 0, 0, 0);
        doc.due("of itself, out of its range", y.solve(1, 0), NONE);
        Resolverium z = six();
        need(z, 0, 0, 1, PEER);
        z.demand(0, 0, 0, 0);
        doc.due("of itself, in its range", z.solve(1, 0), 1);
    }

    /** A need of what has no version, one in its range, or one out of it, pulled by a demand or not. */
    private void needOfTarget(int kind, boolean pulls) {
        for (int version = 0; version < 3; version++) {
            for (int platforms = 6; platforms < 8; platforms++) {
                for (int demanded = 0; demanded < 2; demanded++) {
                    Resolverium x = plain();
                    publish(x, 0, 1);
                    x.need(0, 5, exact(x, 1), kind, NONE, platforms, 0);
                    if (version > 0) {
                        publish(x, 5, version);
                    }
                    x.demand(0, 0, 0, 0);
                    x.demand(demanded == 1 ? 0 : 1, 5, 0, 0);
                    x.solve(1, 0);
                    boolean counts = platforms == 7;
                    int withVersion = version == 0 || (counts && version == 2) ? 0
                            : demanded == 1 || (counts && pulls) ? 1 : 0;
                    int without = demanded == 1 || (counts && kind != OPTIONAL) ? 0 : 1;
                    doc.due("kind " + kind + ", version " + version + ", platforms " + platforms + ", demanded "
                            + demanded, x.solutions(), withVersion + without);
                }
            }
        }
    }

    private void pulled() {
        doc.says("and each package with a version is pulled, as told by the least sets: by a demand that counts, or by"
                + " a need that counts, NORMAL or OPTIONAL, of a package that is pulled.");
        for (int weak = 0; weak < 5; weak++) {
            for (int kind = NORMAL; kind <= PEER; kind++) {
                Resolverium x = six();
                for (int at = 5; at > 0; at--) {
                    need(x, at, at - 1, 0, at == weak ? kind : NORMAL);
                }
                x.demand(0, 5, 0, 0);
                x.solve(1, 0);
                boolean broken = kind == PEER && weak > 0;
                doc.due("a chain with kind " + kind + " of " + weak, x.solutions(),
                        broken ? 0 : kind == OPTIONAL && weak > 0 ? 2 : 1);
                doc.due("its end", best(x, 0), broken ? NONE : 0);
            }
        }
        Resolverium z = six();
        need(z, 0, 1, 0, NORMAL);
        need(z, 0, 1, 1, OPTIONAL);
        need(z, 0, 1, 1, PEER);
        z.demand(0, 0, 0, 0);
        doc.due("by two needs of one version", z.solve(1, 0), 2);
        doc.due("the one that is pulled by two", best(z, 1), 1);
        Resolverium y = six();
        need(y, 0, 1, 0, NORMAL);
        need(y, 1, 0, 0, NORMAL);
        need(y, 2, 2, 0, OPTIONAL);
        y.need(3, 4, 0, NORMAL, NONE, 6, 0);
        need(y, 4, 5, 0, OPTIONAL);
        y.demand(0, 3, 0, 0);
        y.demand(1, 0, 0, 0);
        doc.due("by a demand that counts", y.solve(1, 0), 1);
        doc.due("not by one another, not by itself", y.solutions(), 1);
        doc.due("by the other demand", y.solve(2, 0), 2);
        y.setPlatform(1);
        doc.due("by needs that count then", y.solve(1, 0), 3);
        doc.due("the last one or not", y.solutions(), 2);
        doc.due("by all of them", y.solve(3, 0), 5);
    }

    private void fewestChanges() {
        doc.says("The lock has a version for some packages, none at first.");
        for (int at = 0; at < 6; at++) {
            Resolverium x = six();
            doc.due("none at first", x.unlock(at), NONE);
            x.demand(0, at, 0, 0);
            x.solve(1, 0);
            doc.due("one more", x.lock(), 1);
            for (int i = 0; i < 6; i++) {
                doc.due("for some", x.unlock(i), i == at ? at : NONE);
            }
        }
        doc.says("With a set of packages that are updated, the best solution is one in which as few packages as can be,"
                + " of those that are locked and not updated, have another version than that in the lock, or none;");
        for (int first = 0; first < 6; first++) {
            for (int updated = 0; updated < 16; updated++) {
                keptOrChanged(first, updated);
            }
        }
        noneIsAChange();
        moreIsNoChange();
    }

    /** Of four packages from the first one on, bit i of updated is for that which is i behind it. */
    private void keptOrChanged(int first, int updated) {
        int[] at = {first, (first + 1) % 6, (first + 2) % 6, (first + 3) % 6};
        Resolverium x = oneAgainstThree(at);
        int set = 0;
        for (int i = 0; i < 4; i++) {
            set |= (updated >> i & 1) << at[i];
        }
        x.solve(1, set);
        int keeping = Integer.bitCount(14 & ~updated);
        int changing = 1 & ~updated;
        if (keeping == changing) {
            return;
        }
        boolean kept = keeping < changing;
        doc.due("the package " + first + ", updated " + set, best(x, first), kept ? first : 6);
        for (int i = 1; i < 4; i++) {
            boolean isNew = kept || (updated >> i & 1) == 1;
            doc.due("the package " + at[i] + ", updated " + set, best(x, at[i]), isNew ? 6 + i : at[i]);
        }
    }

    /** To keep the locked version of the first package is to change the other three. */
    private static Resolverium oneAgainstThree(int[] at) {
        Resolverium x = six();
        int two = exact(x, 2);
        for (int i = 0; i < 4; i++) {
            x.demand(0, at[i], 0, 0);
        }
        x.solve(1, 0);
        x.lock();
        for (int i = 0; i < 4; i++) {
            publish(x, at[i], 2);
            if (i > 0) {
                need(x, at[0], at[i], two, NORMAL);
            }
        }
        return x;
    }

    private void noneIsAChange() {
        for (int others = 1; others <= 3; others++) {
            Resolverium x = six();
            int two = exact(x, 2);
            need(x, 0, 1, 0, NORMAL);
            for (int at = 0; at <= 4; at++) {
                if (at != 1) {
                    x.demand(0, at, 0, 0);
                }
            }
            x.solve(1, 0);
            x.lock();
            publish(x, 0, 2);
            for (int at = 2; at < 2 + others; at++) {
                publish(x, at, 2);
                need(x, 0, at, two, NORMAL);
            }
            doc.due("another version and none, or " + others, best(x, 0), others <= 2 ? 0 : 6);
            doc.due("the one that is pulled by the first", best(x, 1), others <= 2 ? 1 : NONE);
        }
    }

    private void moreIsNoChange() {
        Resolverium x = six();
        int two = exact(x, 2);
        for (int at = 0; at < 3; at++) {
            x.demand(0, at, 0, 0);
        }
        x.solve(1, 0);
        x.lock();
        for (int at = 0; at < 3; at++) {
            publish(x, at, 2);
        }
        need(x, 0, 1, two, NORMAL);
        need(x, 0, 2, two, NORMAL);
        for (int at = 3; at < 6; at++) {
            need(x, 6, at, 0, NORMAL);
        }
        doc.due("one changed, and three more", best(x, 0), 6);
        doc.due("one that is not locked", best(x, 5), 5);
        doc.due("one that is locked", best(x, 1), 1);
    }

    private void packageByPackage() {
        doc.says("of these, package by package, by rising numbers, the one with: the version in the lock, if the"
                + " package is not updated; otherwise the greatest version; otherwise none.");
        for (int updated = 0; updated < 64; updated++) {
            Resolverium x = sixDemanded();
            x.solve(7, 63);
            x.lock();
            for (int at = 0; at < 6; at++) {
                x.publish(at, 3, 0, 0, 0, 0);
                x.publish(at, 2, 0, 0, 0, 0);
            }
            x.solve(7, updated);
            for (int at = 0; at < 6; at++) {
                doc.due("updated " + updated, best(x, at), (updated >> at & 1) == 1 ? 6 + 2 * at : at);
            }
        }
        for (int low = 0; low < 6; low++) {
            for (int high = low + 1; high < 6; high++) {
                lowBeforeHigh(low, high, true);
                lowBeforeHigh(low, high, false);
            }
        }
        for (int low = 0; low < 5; low++) {
            for (int updated = 0; updated < 4; updated++) {
                asManyChanges(low, updated);
            }
        }
        versionOrNone();
        lockedButUnusable();
    }

    /** Either of two packages keeps its locked version, as the locked ones do not go together. */
    private void asManyChanges(int low, int updated) {
        Resolverium x = sixDemanded();
        int two = exact(x, 2);
        x.solve(7, 0);
        x.lock();
        publish(x, low, 2);
        publish(x, low + 1, 2);
        need(x, low, low + 1, two, NORMAL);
        x.solve(7, updated << low);
        doc.due("the package " + low, best(x, low), (updated & 1) == 1 ? 6 : low);
        doc.due("the package " + (low + 1), best(x, low + 1), updated == 1 ? low + 1 : 7);
    }

    /** The greatest versions of two packages do not go together. */
    private void lowBeforeHigh(int low, int high, boolean lowNeeds) {
        Resolverium x = sixDemanded();
        int one = exact(x, 1);
        publish(x, low, 2);
        publish(x, high, 2);
        need(x, lowNeeds ? 6 : 7, lowNeeds ? high : low, one, PEER);
        x.solve(7, 0);
        doc.due(low + " before " + high, best(x, low), 6);
        doc.due(high + " behind " + low, best(x, high), high);
    }

    private void versionOrNone() {
        Resolverium x = six();
        int nine = exact(x, 9);
        need(x, 0, 1, 0, OPTIONAL);
        need(x, 0, 2, 0, OPTIONAL);
        x.demand(0, 0, 0, 0);
        x.solve(1, 0);
        doc.due("a version rather than none", best(x, 2), 2);
        need(x, 2, 1, nine, OPTIONAL);
        doc.due("a version of 1", best(x, 1), 1);
        doc.due("though none of 2", best(x, 2), NONE);
        x.lock();
        x.unlock(0);
        x.unlock(1);
        doc.due("one that is not locked as before", best(x, 1), 1);
        x.yank(1);
        doc.due("otherwise none", best(x, 1), NONE);
        doc.due("then a version of 2", best(x, 2), 2);
    }

    private void lockedButUnusable() {
        Resolverium x = sixDemanded();
        x.solve(7, 0);
        x.lock();
        for (int at = 0; at < 6; at++) {
            publish(x, at, 3);
            x.setPlatforms(at, 2);
        }
        publish(x, 0, 2);
        for (int at = 0; at < 6; at++) {
            doc.due("the greatest one instead", best(x, at), 6 + at);
        }
        x.setPlatform(1);
        doc.due("the one in the lock", best(x, 0), 0);
    }

    private void solvedLast() {
        doc.in("What is told of it");
        doc.says("What is solved last, with its workspaces and its updated packages, counts for what is asked (but what"
                + " has changed since then is as it is now): the best solution is found anew when it is asked.");
        Resolverium x = six();
        x.demand(0, 0, 0, 0);
        x.demand(1, 1, 0, 0);
        doc.due("nothing is solved yet", best(x, 0), NONE);
        x.solve(1, 0);
        x.solve(2, 0);
        doc.due("what was solved before", best(x, 0), NONE);
        doc.due("what was solved last", best(x, 1), 1);
        doc.due("a refused one", Calls.answer(x, "solve", 8, 0), "IllegalArgumentException");
        doc.due("still what was solved last", best(x, 1), 1);
        x.demand(2, 1, exact(x, 3), 0);
        doc.due("one without a solution", x.solve(6, 0), NONE);
        doc.due("counts", best(x, 1), NONE);
        doc.due("for why", x.why(), 4);
        doc.due("for against", x.against(1), Resolverium.REFUSED);
        doc.due("for solutions", x.solutions(), 0);
        doc.due("for pending", x.pending(), NONE);
        publish(x, 1, 3);
        doc.due("not for both", x.why(), 0);
        doc.due("a version that is new", best(x, 1), 6);
        changedSince();
        updatedSince();
        askedBefore();
    }

    /** What was found for another question leaves nothing that the best solution is found by. */
    private void askedBefore() {
        Resolverium x = plain();
        publish(x, 0, 1);
        publish(x, 0, 2);
        publish(x, 1, 1);
        publish(x, 1, 2);
        int one = exact(x, 1);
        need(x, 0, 1, one, NORMAL);
        x.need(1, 0, one, NORMAL, 0, 7, 0);
        x.need(2, 0, 0, NORMAL, NONE, 7, 1);
        x.demand(0, 0, 0, 0);
        x.demand(0, 1, 0, 0);
        x.solve(1, 0);
        doc.due("the lesser ones go together", x.against(0), Resolverium.PASSED_OVER);
        doc.due("the lesser ones go together", x.against(2), Resolverium.PASSED_OVER);
        doc.due("the greater ones are the best", x.against(1), Resolverium.FINE);
        doc.due("behind that", best(x, 0), 1);
        doc.due("a solution for all", x.why(), 0);
        doc.due("two solutions", x.solutions(), 2);
        doc.due("behind that", best(x, 0), 1);
        doc.due("and on the disk", x.install(10), 2);
        doc.due("the greater one", x.onDisk(1), 30000 + 93 + 15);
    }

    /** Each call that tells something counts at once for what was solved before it. */
    private void changedSince() {
        Resolverium x = six();
        x.solve(1, 0);
        x.demand(0, 0, 0, 0);
        doc.due("a demand", best(x, 0), 0);
        need(x, 0, 1, 0, OPTIONAL);
        doc.due("a need", best(x, 1), 1);
        x.need(0, 2, 0, NORMAL, 2, 7, 0);
        x.demand(0, 0, 0, 1);
        doc.due("the features of a demand", x.features(0), 1);
        x.bring(0, 0, 2);
        doc.due("what a feature brings", best(x, 2), 2);
        x.replace(2, 3);
        doc.due("what is replaced", best(x, 3), 3);
        x.setPlatforms(1, 5);
        x.setPlatform(1);
        doc.due("the platform of now", best(x, 1), NONE);
        x.setPlatforms(1, 2);
        doc.due("the platforms of a version", best(x, 1), 1);
        x.yank(1);
        doc.due("a yanked version", best(x, 1), NONE);
        doc.due("and then to install", x.pending(), 2);
        x.yank(1);
        x.advise(1, 0);
        doc.due("an advisory", best(x, 1), NONE);
        publish(x, 1, 2);
        doc.due("which is for a new version, too", best(x, 1), NONE);
        publish(x, 0, 2);
        doc.due("a new version", best(x, 0), 7);
        doc.due("and the needs that it has not", best(x, 3), NONE);
    }

    private void updatedSince() {
        Resolverium x = sixDemanded();
        x.solve(7, 5);
        x.lock();
        for (int at = 0; at < 6; at++) {
            publish(x, at, 2);
        }
        for (int at = 0; at < 6; at++) {
            doc.due("updated, though the lock came later", best(x, at), at == 0 || at == 2 ? 6 + at : at);
        }
        x.unlock(1);
        doc.due("no longer in the lock", best(x, 1), 7);
        doc.due("another lock", x.lock(), 3);
        x.yank(6);
        doc.due("yanked, but in the lock", best(x, 0), 6);
    }

    private void against() {
        doc.says("What is against a version: HIDDEN, YANKED, FOREIGN, BAD as above; otherwise REFUSED, if a demand that"
                + " counts is for its package, and the range does not have it; otherwise IMPOSSIBLE, if no solution"
                + " has it; otherwise PASSED_OVER, if the best solution does not have it; otherwise FINE.");
        for (int flaws = 0; flaws < 16; flaws++) {
            Resolverium x = plain();
            x.publish(0, 1, 0, 0, 0, flaws & 1);
            publish(x, 0, 2);
            x.demand(0, 0, exact(x, 2), 0);
            if ((flaws & 2) != 0) {
                x.yank(0);
            }
            x.setPlatforms(0, (flaws & 4) != 0 ? 6 : 1);
            x.advise(0, (flaws & 8) != 0 ? 0 : 1);
            int due = (flaws & 1) != 0 ? Resolverium.HIDDEN : (flaws & 2) != 0 ? Resolverium.YANKED
                    : (flaws & 4) != 0 ? Resolverium.FOREIGN : flaws != 0 ? Resolverium.BAD : NONE;
            doc.due("before it is solved", x.against(0), due == NONE ? Resolverium.IMPOSSIBLE : due);
            x.solve(1, 0);
            doc.due("refused with " + flaws, x.against(0), due == NONE ? Resolverium.REFUSED : due);
        }
        refusedOrImpossible();
        impossibleOrPassedOver();
    }

    private void refusedOrImpossible() {
        Resolverium x = six();
        publish(x, 0, 2);
        x.demand(1, 0, 1, 0);
        x.demand(0, 0, 0, 0);
        x.solve(1, 0);
        doc.due("by a demand that does not count", x.against(6), Resolverium.FINE);
        x.solve(3, 0);
        doc.due("by one that counts", x.against(6), Resolverium.REFUSED);
        need(x, 6, 5, exact(x, 7), NORMAL);
        doc.due("though impossible, too", x.against(6), Resolverium.REFUSED);
        x.solve(1, 0);
        doc.due("impossible by a need", x.against(6), Resolverium.IMPOSSIBLE);
        x.demand(1, 3, exact(x, 8), 0);
        x.solve(3, 0);
        doc.due("refused without any solution", x.against(3), Resolverium.REFUSED);
        doc.due("impossible without any solution", x.against(0), Resolverium.IMPOSSIBLE);
        doc.due("and one that nothing pulls", x.against(5), Resolverium.IMPOSSIBLE);
        Resolverium y = six();
        y.replace(0, 1);
        y.replace(1, 2);
        y.demand(0, 0, exact(y, 3), 0);
        y.solve(1, 0);
        doc.due("a demand of what is replaced", y.against(2), Resolverium.REFUSED);
        doc.due("is not of that itself", y.against(0), Resolverium.IMPOSSIBLE);
        doc.due("nor of one between", y.against(1), Resolverium.IMPOSSIBLE);
        publish(y, 2, 3);
        doc.due("one that the range has", y.against(6), Resolverium.FINE);
        doc.due("the other one", y.against(2), Resolverium.REFUSED);
    }

    private void impossibleOrPassedOver() {
        Resolverium x = six();
        publish(x, 0, 2);
        need(x, 0, 1, 0, NORMAL);
        x.demand(0, 0, 0, 0);
        x.solve(1, 0);
        doc.due("only with the lesser one", x.against(1), Resolverium.PASSED_OVER);
        doc.due("the lesser one", x.against(0), Resolverium.PASSED_OVER);
        doc.due("the best one", x.against(6), Resolverium.FINE);
        doc.due("nothing pulls it", x.against(2), Resolverium.IMPOSSIBLE);
        x.yank(6);
        x.solve(1, 0);
        doc.due("the lesser one then", x.against(0), Resolverium.FINE);
        doc.due("and with it", x.against(1), Resolverium.FINE);
        x.lock();
        x.yank(6);
        doc.due("the locked one", x.against(0), Resolverium.FINE);
        doc.due("the greater one", x.against(6), Resolverium.PASSED_OVER);
        x.solve(1, 3);
        doc.due("the greater one, updated", x.against(6), Resolverium.FINE);
        doc.due("the locked one, updated", x.against(0), Resolverium.PASSED_OVER);
    }

    private void sums() {
        doc.in("The disk");
        doc.says("The disk has, for some packages, a version and a sum.");
        Resolverium x = sixDemanded();
        x.solve(5, 0);
        x.install(10);
        for (int at = 0; at < 6; at++) {
            doc.due("for some packages", x.onDisk(at), at % 3 == 1 ? NONE : 10000 * at + 31 * at + 8);
        }
        doc.says("The sum of a version is the remainder by 9973 of 31 times its number, 7 times its first, 5 times its"
                + " second, and 3 times its third number, its pre, and 1, together.");
        int[][] rows = {{0, 0, 0, 0, 0}, {0, 1, 0, 0, 0}, {0, 0, 1, 0, 0}, {0, 0, 0, 1, 0}, {0, 0, 0, 0, 1},
            {0, 9, 0, 0, 0}, {0, 0, 9, 0, 0}, {0, 0, 0, 9, 0}, {0, 0, 0, 0, 9}, {1, 0, 0, 0, 0}, {20, 1, 2, 3, 4},
            {20, 9, 9, 9, 0}, {20, 9, 9, 9, 9}};
        for (int[] v : rows) {
            Resolverium y = plain();
            for (int version = 0; version < v[0]; version++) {
                publish(y, version / 4, version % 4);
            }
            y.publish(5, v[1], v[2], v[3], v[4], 0);
            y.demand(0, 5, y.range(Resolverium.EXACT, v[1], v[2], v[3], v[4]), 0);
            y.solve(1, 0);
            y.install(1);
            int sum = 31 * v[0] + 7 * v[1] + 5 * v[2] + 3 * v[3] + v[4] + 1;
            doc.due("sum", y.onDisk(5), 10000 * v[0] + sum);
            doc.due("spoiled", y.spoil(5), sum + 1);
        }
    }

    private void installing() {
        doc.says("To install is to go through the packages by rising numbers: one that the best solution does not have"
                + " is taken off the disk, if it is there; one that it has is put there, with its sum, unless it is"
                + " there with this version and its right sum.");
        Resolverium x = mixed();
        int[][] due = {{NONE, 0}, {10039, 1}, {60201, 2}, {30101, 3}, {40132, 3}, {NONE, 4}};
        for (int steps = 0; steps <= 4; steps++) {
            for (int at = 0; at < 6; at++) {
                int before = mixed().onDisk(at);
                boolean done = due[at][1] < steps;
                doc.due("the package " + at + " after " + steps, x.onDisk(at), done ? due[at][0] : before);
            }
            doc.due("one step", x.install(1), 1);
        }
        doc.due("nothing is left", x.install(1), 0);
        x.spoil(4);
        x.solve(0, 0);
        doc.due("a wrong sum is taken off as others are", x.install(10), 4);
        doc.due("nothing is there", x.pending(), 0);
        doc.says("Each taking off and putting is a step; after a number of steps that is told, the install is cut off.");
        for (int steps = 1; steps <= 10; steps++) {
            Resolverium y = mixed();
            int made = 0;
            for (int i = 0; i < 6; i++) {
                int step = Math.min(steps, 5 - made);
                doc.due("steps", y.install(steps), step);
                made += step;
                doc.due("pending", y.pending(), 5 - made);
            }
        }
        Resolverium z = mixed();
        z.install(2);
        doc.due("what has changed since the cut", publish(z, 1, 3), 7);
        doc.due("is taken up", z.install(1), 1);
        doc.due("by another version", z.onDisk(1), 70000 + 217 + 22);
        doc.due("and the rest", z.install(10), 3);
    }

    /** To take off 0 and 5, to put 1, another version of 2, and 3 anew; 4 is right. */
    private static Resolverium mixed() {
        Resolverium x = six();
        int[] workspaces = {0, 1, 2, 2, 2, 0};
        for (int at = 0; at < 6; at++) {
            x.demand(workspaces[at], at, 0, 0);
        }
        x.solve(5, 0);
        x.install(10);
        publish(x, 2, 2);
        x.spoil(3);
        x.solve(6, 0);
        return x;
    }

    private void constants() {
        doc.says("The constants: `NONE = -1`: None.");
        doc.due("NONE", Resolverium.NONE, -1);
        doc.says("`EXACT = 0, AT_LEAST = 1, BELOW = 2, ALL = 3, CARET = 4, TILDE = 5, WILD_MINOR = 6, WILD_PATCH = 7,"
                + " BOTH = 8, EITHER = 9`: Kinds of ranges.");
        int[] ranges = {Resolverium.EXACT, Resolverium.AT_LEAST, Resolverium.BELOW, Resolverium.ALL,
            Resolverium.CARET, Resolverium.TILDE, Resolverium.WILD_MINOR, Resolverium.WILD_PATCH,
            Resolverium.BOTH, Resolverium.EITHER};
        rising(ranges);
        doc.says("`NORMAL = 0, OPTIONAL = 1, PEER = 2`: Kinds of needs.");
        rising(new int[] {Resolverium.NORMAL, Resolverium.OPTIONAL, Resolverium.PEER});
        doc.says("`FINE = 0, HIDDEN = 1, YANKED = 2, FOREIGN = 3, BAD = 4, REFUSED = 5, IMPOSSIBLE = 6, PASSED_OVER ="
                + " 7`: What is against a version.");
        rising(new int[] {Resolverium.FINE, Resolverium.HIDDEN, Resolverium.YANKED, Resolverium.FOREIGN,
            Resolverium.BAD, Resolverium.REFUSED, Resolverium.IMPOSSIBLE, Resolverium.PASSED_OVER});
    }

    private void rising(int[] constants) {
        for (int i = 0; i < constants.length; i++) {
            doc.due("constant", constants[i], i);
        }
    }
}
