import java.util.ArrayList;
import java.util.List;

/**
 * The document's words as plainly as they can be written, with no care for speed: what
 * RandomRunsTest compares Resolverium with. It shares no code with it.
 */
final class Model {
    static final class Version {
        int number, at, first, second, third, pre, place;
        boolean yanked;
        int platforms = 7;
        final boolean[][] brings = new boolean[3][3];
        final List<Need> needs = new ArrayList<>();

        boolean isGreaterThan(int f, int s, int t, int p) {
            if (first != f) {
                return first > f;
            }
            if (second != s) {
                return second > s;
            }
            if (third != t) {
                return third > t;
            }
            if (pre == p) {
                return false;
            }
            return pre == 0 || (p != 0 && pre > p);
        }

        boolean is(int f, int s, int t, int p) {
            return first == f && second == s && third == t && pre == p;
        }

        boolean isGreaterThan(Version o) {
            return isGreaterThan(o.first, o.second, o.third, o.pre);
        }
    }

    record Range(int kind, int a, int b, int c, int pre, Range left, Range right) {
        boolean has(Version v) {
            if (kind == Resolverium.BOTH) {
                return left.has(v) && right.has(v);
            }
            if (kind == Resolverium.EITHER) {
                return left.has(v) || right.has(v);
            }
            boolean sameNumbers = v.first == a && v.second == b && v.third == c;
            return fits(v) && (v.pre == 0 || (pre != 0 && sameNumbers));
        }

        private boolean fits(Version v) {
            boolean atLeast = v.is(a, b, c, pre) || v.isGreaterThan(a, b, c, pre);
            switch (kind) {
                case Resolverium.EXACT: return v.is(a, b, c, pre);
                case Resolverium.AT_LEAST: return atLeast;
                case Resolverium.BELOW: return !atLeast;
                case Resolverium.ALL: return true;
                case Resolverium.CARET:
                    if (a > 0) {
                        return atLeast && isBelow(v, a + 1, 0, 0);
                    }
                    return atLeast && (b > 0 ? isBelow(v, 0, b + 1, 0) : isBelow(v, 0, 0, c + 1));
                case Resolverium.TILDE: return atLeast && isBelow(v, a, b + 1, 0);
                case Resolverium.WILD_MINOR: return v.first == a;
                default: return v.first == a && v.second == b;
            }
        }

        private static boolean isBelow(Version v, int f, int s, int t) {
            return !v.is(f, s, t, 0) && !v.isGreaterThan(f, s, t, 0);
        }
    }

    record Need(int target, Range range, int kind, int feature, int platforms, int features) { }

    record Demand(int workspace, int target, Range range, int features) { }

    record Advisory(int at, Range range) { }

    final List<Version> versions = new ArrayList<>();
    final List<Range> ranges = new ArrayList<>();
    final List<Demand> demands = new ArrayList<>();
    final List<Advisory> advisories = new ArrayList<>();
    final int[] replacedBy = {-1, -1, -1, -1, -1, -1};
    final int[] locked = {-1, -1, -1, -1, -1, -1};
    final int[] diskVersion = {-1, -1, -1, -1, -1, -1};
    final int[] diskSum = new int[6];
    int platform;
    int workspaces;
    int updated;

    /** The solutions for a set of demands, remembered until something changes. */
    private final List<int[]> known = new ArrayList<>();
    private int knownFor = -1;

    private void changed() {
        knownFor = -1;
    }

    private static void index(boolean good) {
        if (!good) {
            throw new IndexOutOfBoundsException();
        }
    }

    private static void argument(boolean good) {
        if (!good) {
            throw new IllegalArgumentException();
        }
    }

    private static void state(boolean good) {
        if (!good) {
            throw new IllegalStateException();
        }
    }

    private static boolean in(int value, int from, int to) {
        return value >= from && value <= to;
    }

    private static boolean bit(int set, int i) {
        return (set & 1 << i) != 0;
    }

    private boolean isVersion(int v) {
        return in(v, 0, versions.size() - 1);
    }

    private boolean isRange(int r) {
        return in(r, 0, ranges.size() - 1);
    }

    private List<Version> of(int at) {
        List<Version> result = new ArrayList<>();
        for (Version v : versions) {
            if (v.at == at) {
                result.add(v);
            }
        }
        return result;
    }

    int publish(int at, int first, int second, int third, int pre, int place) {
        index(in(at, 0, 5) && in(place, 0, 1));
        argument(in(first, 0, 9) && in(second, 0, 9) && in(third, 0, 9) && in(pre, 0, 9));
        state(of(at).size() < 4);
        for (Version v : of(at)) {
            state(!v.is(first, second, third, pre));
        }
        Version v = new Version();
        v.number = versions.size();
        v.at = at;
        v.first = first;
        v.second = second;
        v.third = third;
        v.pre = pre;
        v.place = place;
        versions.add(v);
        changed();
        return v.number;
    }

    int compare(int version, int other) {
        index(isVersion(version) && isVersion(other));
        Version v = versions.get(version);
        Version o = versions.get(other);
        argument(v.at == o.at);
        return v.isGreaterThan(o) ? 1 : o.isGreaterThan(v) ? -1 : 0;
    }

    int yank(int version) {
        index(isVersion(version));
        versions.get(version).yanked = !versions.get(version).yanked;
        changed();
        return versions.get(version).yanked ? 1 : 0;
    }

    int setPlatforms(int version, int platforms) {
        index(isVersion(version));
        argument(in(platforms, 0, 7));
        int before = versions.get(version).platforms;
        versions.get(version).platforms = platforms;
        changed();
        return before;
    }

    int bring(int version, int feature, int other) {
        index(isVersion(version) && in(feature, 0, 2) && in(other, 0, 2));
        boolean before = versions.get(version).brings[feature][other];
        versions.get(version).brings[feature][other] = true;
        changed();
        return before ? 0 : 1;
    }

    int range(int kind, int a, int b, int c, int pre) {
        index(in(kind, 0, 7));
        int last = kind == Resolverium.ALL ? 0 : 9;
        int lastB = kind == Resolverium.WILD_MINOR ? 0 : last;
        int lastC = kind == Resolverium.WILD_PATCH ? 0 : lastB;
        argument(in(a, 0, last) && in(b, 0, lastB) && in(c, 0, lastC) && in(pre, 0, lastC));
        state(ranges.size() < 30);
        ranges.add(new Range(kind, a, b, c, pre, null, null));
        return ranges.size() - 1;
    }

    int join(int kind, int first, int other) {
        index(in(kind, 8, 9) && isRange(first) && isRange(other));
        state(ranges.size() < 30);
        ranges.add(new Range(kind, 0, 0, 0, 0, ranges.get(first), ranges.get(other)));
        return ranges.size() - 1;
    }

    int has(int range, int version) {
        index(isRange(range) && isVersion(version));
        return ranges.get(range).has(versions.get(version)) ? 1 : 0;
    }

    int need(int version, int target, int range, int kind, int feature, int platforms, int features) {
        index(isVersion(version) && in(target, 0, 5) && isRange(range) && in(kind, 0, 2)
                && in(feature, -1, 2));
        argument(in(platforms, 0, 7) && in(features, 0, 7));
        List<Need> needs = versions.get(version).needs;
        state(needs.size() < 5);
        needs.add(new Need(target, ranges.get(range), kind, feature, platforms, features));
        changed();
        return needs.size();
    }

    int demand(int workspace, int target, int range, int features) {
        index(in(workspace, 0, 2) && in(target, 0, 5) && isRange(range));
        argument(in(features, 0, 7));
        state(demands.size() < 6);
        demands.add(new Demand(workspace, target, ranges.get(range), features));
        changed();
        return demands.size() - 1;
    }

    int advise(int at, int range) {
        index(in(at, 0, 5) && isRange(range));
        state(advisories.size() < 8);
        advisories.add(new Advisory(at, ranges.get(range)));
        changed();
        return advisories.size();
    }

    int mending(int version) {
        index(isVersion(version));
        Version best = null;
        for (Version v : of(versions.get(version).at)) {
            if (v.isGreaterThan(versions.get(version)) && unusable(v) == 0
                    && (best == null || best.isGreaterThan(v))) {
                best = v;
            }
        }
        return best == null ? -1 : best.number;
    }

    int replace(int at, int other) {
        index(in(at, 0, 5) && in(other, -1, 5));
        for (int next = other; next != -1; next = replacedBy[next]) {
            state(next != at);
        }
        int before = replacedBy[at];
        replacedBy[at] = other;
        changed();
        return before;
    }

    int setPlatform(int now) {
        index(in(now, 0, 2));
        int before = platform;
        platform = now;
        changed();
        return before;
    }

    int solve(int sets, int packages) {
        argument(in(sets, 0, 7) && in(packages, 0, 63));
        workspaces = sets;
        updated = packages;
        int[] best = best();
        if (best == null) {
            return -1;
        }
        int count = 0;
        for (int v : best) {
            count += v == -1 ? 0 : 1;
        }
        return count;
    }

    int chosen(int at) {
        index(in(at, 0, 5));
        int[] best = best();
        return best == null ? -1 : best[at];
    }

    int features(int at) {
        index(in(at, 0, 5));
        int[] best = best();
        if (best == null || best[at] == -1) {
            return 0;
        }
        int result = 0;
        for (int feature = 0; feature < 3; feature++) {
            result |= featuresOn(best, counted())[at][feature] ? 1 << feature : 0;
        }
        return result;
    }

    int solutions() {
        return Math.min(1000, all(counted()).size());
    }

    int why() {
        int all = counted();
        if (!all(all).isEmpty()) {
            return 0;
        }
        int best = all;
        for (int set = 63; set >= 1; set--) {
            if ((set & ~all) == 0 && Integer.bitCount(set) <= Integer.bitCount(best)
                    && all(set).isEmpty()) {
                best = set;
            }
        }
        return best;
    }

    int against(int version) {
        index(isVersion(version));
        Version v = versions.get(version);
        if (unusable(v) != 0) {
            return unusable(v);
        }
        for (int d = 0; d < demands.size(); d++) {
            Demand demand = demands.get(d);
            if (bit(counted(), d) && end(demand.target) == v.at && !demand.range.has(v)) {
                return Resolverium.REFUSED;
            }
        }
        boolean possible = false;
        for (int[] solution : all(counted())) {
            possible |= solution[v.at] == version;
        }
        if (!possible) {
            return Resolverium.IMPOSSIBLE;
        }
        return best()[v.at] == version ? Resolverium.FINE : Resolverium.PASSED_OVER;
    }

    int lock() {
        int[] best = best();
        state(best != null);
        int differing = 0;
        for (int at = 0; at < 6; at++) {
            differing += locked[at] == best[at] ? 0 : 1;
            locked[at] = best[at];
        }
        changed();
        return differing;
    }

    int unlock(int at) {
        index(in(at, 0, 5));
        int before = locked[at];
        locked[at] = -1;
        changed();
        return before;
    }

    int install(int steps) {
        argument(in(steps, 1, 10));
        state(best() != null);
        return go(steps, true);
    }

    int pending() {
        return best() == null ? -1 : go(6, false);
    }

    private int go(int most, boolean really) {
        int[] best = best();
        int steps = 0;
        for (int at = 0; at < 6 && steps < most; at++) {
            boolean right = best[at] == -1 ? diskVersion[at] == -1
                    : diskVersion[at] == best[at] && diskSum[at] == sum(versions.get(best[at]));
            if (!right) {
                steps++;
                if (really) {
                    diskVersion[at] = best[at];
                    diskSum[at] = best[at] == -1 ? 0 : sum(versions.get(best[at]));
                }
            }
        }
        return steps;
    }

    private static int sum(Version v) {
        return (31 * v.number + 7 * v.first + 5 * v.second + 3 * v.third + v.pre + 1) % 9973;
    }

    int spoil(int at) {
        index(in(at, 0, 5));
        state(diskVersion[at] != -1);
        diskSum[at]++;
        return diskSum[at];
    }

    int onDisk(int at) {
        index(in(at, 0, 5));
        return diskVersion[at] == -1 ? -1 : 10000 * diskVersion[at] + diskSum[at];
    }

    private int unusable(Version v) {
        boolean atFirstPlace = false;
        for (Version o : of(v.at)) {
            atFirstPlace |= o.place == 0;
        }
        if (v.place == 1 && atFirstPlace) {
            return Resolverium.HIDDEN;
        }
        if (v.yanked && locked[v.at] != v.number) {
            return Resolverium.YANKED;
        }
        if (!bit(v.platforms, platform)) {
            return Resolverium.FOREIGN;
        }
        for (Advisory advisory : advisories) {
            if (advisory.at == v.at && advisory.range.has(v)) {
                return Resolverium.BAD;
            }
        }
        return 0;
    }

    private int end(int at) {
        return replacedBy[at] == -1 ? at : end(replacedBy[at]);
    }

    private int counted() {
        int result = 0;
        for (int d = 0; d < demands.size(); d++) {
            result |= bit(workspaces, demands.get(d).workspace) ? 1 << d : 0;
        }
        return result;
    }

    /** All solutions, each as the numbers of the versions by the packages, -1 for none. */
    private List<int[]> all(int demandSet) {
        if (knownFor != demandSet) {
            known.clear();
            grow(new int[6], 0, demandSet);
            knownFor = demandSet;
        }
        return known;
    }

    private void grow(int[] choice, int at, int demandSet) {
        if (at == 6) {
            if (isSolution(choice, demandSet)) {
                known.add(choice.clone());
            }
            return;
        }
        choice[at] = -1;
        grow(choice, at + 1, demandSet);
        for (Version v : of(at)) {
            if (unusable(v) == 0) {
                choice[at] = v.number;
                grow(choice, at + 1, demandSet);
            }
        }
    }

    private boolean isSolution(int[] choice, int demandSet) {
        for (int d = 0; d < demands.size(); d++) {
            if (bit(demandSet, d)) {
                int v = choice[end(demands.get(d).target)];
                if (v == -1 || !demands.get(d).range.has(versions.get(v))) {
                    return false;
                }
            }
        }
        boolean[][] on = featuresOn(choice, demandSet);
        for (int v : choice) {
            if (v == -1) {
                continue;
            }
            for (Need need : versions.get(v).needs) {
                int served = choice[end(need.target)];
                boolean fits = served == -1 ? need.kind == Resolverium.OPTIONAL
                        : need.range.has(versions.get(served));
                if (counts(need, versions.get(v).at, on) && !fits) {
                    return false;
                }
            }
        }
        return allPulled(choice, demandSet, on);
    }

    private boolean allPulled(int[] choice, int demandSet, boolean[][] on) {
        boolean[] pulled = new boolean[6];
        for (int d = 0; d < demands.size(); d++) {
            if (bit(demandSet, d)) {
                pulled[end(demands.get(d).target)] = true;
            }
        }
        for (int round = 0; round < 7; round++) {
            for (int at = 0; at < 6; at++) {
                if (pulled[at] && choice[at] != -1) {
                    for (Need need : versions.get(choice[at]).needs) {
                        if (need.kind != Resolverium.PEER && counts(need, at, on)) {
                            pulled[end(need.target)] = true;
                        }
                    }
                }
            }
        }
        for (int at = 0; at < 6; at++) {
            if (choice[at] != -1 && !pulled[at]) {
                return false;
            }
        }
        return true;
    }

    private boolean counts(Need need, int at, boolean[][] on) {
        return bit(need.platforms, platform) && (need.feature == -1 || on[at][need.feature]);
    }

    private boolean[][] featuresOn(int[] choice, int demandSet) {
        boolean[][] on = new boolean[6][3];
        for (int round = 0; round < 20; round++) {
            for (int d = 0; d < demands.size(); d++) {
                if (bit(demandSet, d)) {
                    ask(on, choice, demands.get(d).target, demands.get(d).features);
                }
            }
            for (int at = 0; at < 6; at++) {
                if (choice[at] == -1) {
                    continue;
                }
                Version v = versions.get(choice[at]);
                for (Need need : v.needs) {
                    if (counts(need, at, on)) {
                        ask(on, choice, need.target, need.features);
                    }
                }
                for (int feature = 0; feature < 3; feature++) {
                    for (int other = 0; other < 3; other++) {
                        on[at][other] |= on[at][feature] && v.brings[feature][other];
                    }
                }
            }
        }
        return on;
    }

    private void ask(boolean[][] on, int[] choice, int target, int features) {
        for (int feature = 0; feature < 3; feature++) {
            on[end(target)][feature] |= choice[end(target)] != -1 && bit(features, feature);
        }
    }

    private int[] best() {
        List<int[]> left = new ArrayList<>(all(counted()));
        if (left.isEmpty()) {
            return null;
        }
        int fewest = 7;
        for (int[] solution : left) {
            fewest = Math.min(fewest, changes(solution));
        }
        int most = fewest;
        left.removeIf(solution -> changes(solution) > most);
        for (int at = 0; at < 6; at++) {
            int p = at;
            int wanted = wanted(left, at);
            left.removeIf(solution -> solution[p] != wanted);
        }
        return left.get(0);
    }

    private int changes(int[] solution) {
        int count = 0;
        for (int at = 0; at < 6; at++) {
            count += locked[at] != -1 && !bit(updated, at) && solution[at] != locked[at] ? 1 : 0;
        }
        return count;
    }

    private int wanted(List<int[]> left, int at) {
        int greatest = -1;
        for (int[] solution : left) {
            int v = solution[at];
            if (v != -1 && v == locked[at] && !bit(updated, at)) {
                return v;
            }
            if (v != -1 && (greatest == -1
                    || versions.get(v).isGreaterThan(versions.get(greatest)))) {
                greatest = v;
            }
        }
        return greatest;
    }
}
