import java.util.Arrays;

/**
 * A package manager: versions, ranges, needs and demands are told; the best solution, the reasons
 * against the others, and the steps of an install are asked.
 */
public final class Resolverium {
    /** None. */
    public static final int NONE = -1;

    /** Kinds of ranges. */
    public static final int EXACT = 0, AT_LEAST = 1, BELOW = 2, ALL = 3, CARET = 4, TILDE = 5,
            WILD_MINOR = 6, WILD_PATCH = 7, BOTH = 8, EITHER = 9;

    /** Kinds of needs. */
    public static final int NORMAL = 0, OPTIONAL = 1, PEER = 2;

    /** What is against a version. */
    public static final int FINE = 0, HIDDEN = 1, YANKED = 2, FOREIGN = 3, BAD = 4, REFUSED = 5,
            IMPOSSIBLE = 6, PASSED_OVER = 7;

    private static final int PACKAGES = 6;
    private static final int VERSIONS_EACH = 4;
    private static final int VERSIONS = PACKAGES * VERSIONS_EACH;
    private static final int CHOICES_EACH = VERSIONS_EACH + 1;
    private static final int CHOICES_OF_THREE = CHOICES_EACH * CHOICES_EACH * CHOICES_EACH;
    private static final int CHOICES = CHOICES_OF_THREE * CHOICES_OF_THREE;
    private static final int NEEDS_EACH = 5;
    private static final int NEEDS = VERSIONS * NEEDS_EACH;
    private static final int RANGES = 30;
    private static final int DEMANDS = 6;
    private static final int ADVISORIES = 8;

    private static final int LAST_PLACE = 1;
    private static final int LAST_WORKSPACE = 2;
    private static final int LAST_PLATFORM = 2;
    private static final int LAST_FEATURE = 2;
    private static final int FEATURES = LAST_FEATURE + 1;
    private static final int ANY_OF_THREE = 7;
    private static final int ANY_PACKAGES = 63;
    private static final int HIGHEST_DIGIT = 9;

    private static final int MOST_STEPS = 10;
    private static final int MOST_SOLUTIONS = 1000;
    private static final int SUM_MODULUS = 9973;
    private static final int DISK_UNIT = 10000;

    /** The last digit of a rank is the pre; without a pre it is one above all pres. */
    private static final int RANK_DIGIT = 4;
    private static final int RANK_MASK = 15;
    private static final int WITHOUT_PRE = 10;
    private static final int ABOVE_ALL_RANKS = 1 << 4 * RANK_DIGIT;

    /** Far above the some 24,000 moves of a search over all choices. */
    private static final int MOST_MOVES = 1000000;

    private final World world;
    private final Question question;
    private final Search search;
    private final Census census;
    private final Disk disk;

    /** Creates a world without versions, an empty lock and an empty disk; no workspace counts. */
    public Resolverium() {
        World newWorld = new World();
        Question newQuestion = new Question(newWorld);
        world = newWorld;
        question = newQuestion;
        search = new Search(newWorld, newQuestion);
        census = new Census(newWorld, newQuestion);
        disk = new Disk();
    }

    // ---- versions

    /** Publishes a version, for all platforms, and returns its number. */
    public int publish(int at, int first, int second, int third, int pre, int place)
            throws IndexOutOfBoundsException, IllegalArgumentException, IllegalStateException {
        if (!isPackage(at) || !isUpTo(LAST_PLACE, place)) {
            throw new IndexOutOfBoundsException("no such package or place");
        }
        if (!isDigit(first) || !isDigit(second) || !isDigit(third) || !isDigit(pre)) {
            throw new IllegalArgumentException("first, second, third or pre is out of range");
        }
        int rank = rankOf(first, second, third, pre);
        if (world.versions.isFull(at) || world.versions.hasRank(at, rank)) {
            throw new IllegalStateException("the package has 4 versions, or one like this");
        }
        int ownSum = 7 * first + 5 * second + 3 * third + pre + 1;
        int version = world.versions.add(at, rank, ownSum, place);
        world.ranges.take(version, rank);
        return version;
    }

    /** Compares two versions of one package. */
    public int compare(int version, int other)
            throws IndexOutOfBoundsException, IllegalArgumentException {
        if (!isVersion(version) || !isVersion(other)) {
            throw new IndexOutOfBoundsException("no such version");
        }
        if (world.versions.owners.get(version) != world.versions.owners.get(other)) {
            throw new IllegalArgumentException("the versions are of unlike packages");
        }
        return Integer.compare(world.versions.ranks.get(version), world.versions.ranks.get(other));
    }

    /** Yanks a version, or takes that back; returns whether it is yanked then. */
    public boolean yank(int version) throws IndexOutOfBoundsException {
        if (!isVersion(version)) {
            throw new IndexOutOfBoundsException("no such version");
        }
        return world.versions.toggleYanked(version);
    }

    /** Sets the platforms of a version, and returns those before. */
    public int setPlatforms(int version, int platforms)
            throws IndexOutOfBoundsException, IllegalArgumentException {
        if (!isVersion(version)) {
            throw new IndexOutOfBoundsException("no such version");
        }
        if (!isUpTo(ANY_OF_THREE, platforms)) {
            throw new IllegalArgumentException("platforms is out of range");
        }
        return world.versions.platforms.exchange(version, platforms);
    }

    /** Lets a feature of a version bring another one; returns whether it did not before. */
    public boolean bring(int version, int feature, int other) throws IndexOutOfBoundsException {
        if (!isVersion(version) || !isUpTo(LAST_FEATURE, feature) || !isUpTo(LAST_FEATURE, other)) {
            throw new IndexOutOfBoundsException("no such version or feature");
        }
        return world.versions.brought.merge(version * FEATURES + feature, 1 << other);
    }

    // ---- ranges

    /** Makes a range of the kinds EXACT to WILD_PATCH, and returns its number. */
    public int range(int kind, int a, int b, int c, int pre)
            throws IndexOutOfBoundsException, IllegalArgumentException, IllegalStateException {
        if (!isUpTo(WILD_PATCH, kind)) {
            throw new IndexOutOfBoundsException("no such kind");
        }
        if (!isUpTo(kind == ALL ? 0 : HIGHEST_DIGIT, a)
                || !isUpTo(kind == ALL || kind == WILD_MINOR ? 0 : HIGHEST_DIGIT, b)
                || !isUpTo(hasWholeVersion(kind) ? HIGHEST_DIGIT : 0, c)
                || !isUpTo(hasWholeVersion(kind) ? HIGHEST_DIGIT : 0, pre)) {
            throw new IllegalArgumentException("a, b, c or pre is out of range");
        }
        if (world.ranges.isFull()) {
            throw new IllegalStateException("there are 30 ranges");
        }
        int own = rankOf(a, b, c, pre);
        int from = kind == BELOW || kind == ALL ? 0 : own;
        int below = endOf(kind, a, b, c, own);
        return world.ranges.add(from, below, pre == 0 ? NONE : triple(own), world.versions);
    }

    /** Makes a range of two ranges, and returns its number. */
    public int join(int kind, int first, int other)
            throws IndexOutOfBoundsException, IllegalStateException {
        if ((kind != BOTH && kind != EITHER) || !isRange(first) || !isRange(other)) {
            throw new IndexOutOfBoundsException("no such kind or range");
        }
        if (world.ranges.isFull()) {
            throw new IllegalStateException("there are 30 ranges");
        }
        return world.ranges.addJoined(kind, first, other);
    }

    /** Tells whether a range has a version. */
    public boolean has(int range, int version) throws IndexOutOfBoundsException {
        if (!isRange(range) || !isVersion(version)) {
            throw new IndexOutOfBoundsException("no such range or version");
        }
        return world.ranges.holds(range, version);
    }

    // ---- the world

    /** Adds a need to a version, and returns how many it has then. */
    public int need(int version, int target, int range, int kind, int feature, int platforms,
            int features)
            throws IndexOutOfBoundsException, IllegalArgumentException, IllegalStateException {
        if (!isVersion(version) || !isPackage(target) || !isRange(range) || !isUpTo(PEER, kind)
                || (feature != NONE && !isUpTo(LAST_FEATURE, feature))) {
            throw new IndexOutOfBoundsException("no such version, package, range, kind or feature");
        }
        if (!isUpTo(ANY_OF_THREE, platforms) || !isUpTo(ANY_OF_THREE, features)) {
            throw new IllegalArgumentException("platforms or features is out of range");
        }
        if (world.needs.isFull(version)) {
            throw new IllegalStateException("the version has 5 needs");
        }
        return world.needs.add(version, target, range, kind, feature, platforms, features);
    }

    /** Adds a demand to a workspace, and returns its number. */
    public int demand(int workspace, int target, int range, int features)
            throws IndexOutOfBoundsException, IllegalArgumentException, IllegalStateException {
        if (!isUpTo(LAST_WORKSPACE, workspace) || !isPackage(target) || !isRange(range)) {
            throw new IndexOutOfBoundsException("no such workspace, package or range");
        }
        if (!isUpTo(ANY_OF_THREE, features)) {
            throw new IllegalArgumentException("features is out of range");
        }
        if (world.demands.isFull()) {
            throw new IllegalStateException("there are 6 demands");
        }
        return world.demands.add(workspace, target, range, features);
    }

    /** Gives out an advisory, and returns how many there are then. */
    public int advise(int at, int range) throws IndexOutOfBoundsException, IllegalStateException {
        if (!isPackage(at) || !isRange(range)) {
            throw new IndexOutOfBoundsException("no such package or range");
        }
        if (world.advisories >= ADVISORIES) {
            throw new IllegalStateException("there are 8 advisories");
        }
        return world.warn(at, range);
    }

    /** Returns the least greater version of the same package that can be used, or NONE. */
    public int mending(int version) throws IndexOutOfBoundsException {
        if (!isVersion(version)) {
            throw new IndexOutOfBoundsException("no such version");
        }
        return world.nextUsable(version);
    }

    /** Lets a package be replaced, and returns what replaced it before, or NONE. */
    public int replace(int at, int other) throws IndexOutOfBoundsException, IllegalStateException {
        if (!isPackage(at) || (other != NONE && !isPackage(other))) {
            throw new IndexOutOfBoundsException("no such package");
        }
        if (world.leadsTo(other, at)) {
            throw new IllegalStateException("the package would replace itself");
        }
        return world.redirect(at, other);
    }

    /** Sets the platform of now, and returns that before. */
    public int setPlatform(int platform) throws IndexOutOfBoundsException {
        if (!isUpTo(LAST_PLATFORM, platform)) {
            throw new IndexOutOfBoundsException("no such platform");
        }
        int before = world.platform;
        world.platform = platform;
        return before;
    }

    // ---- solutions

    /** Solves; returns how many packages have a version in the best solution, or NONE. */
    public int solve(int workspaces, int updated) throws IllegalArgumentException {
        if (!isUpTo(ANY_OF_THREE, workspaces) || !isUpTo(ANY_PACKAGES, updated)) {
            throw new IllegalArgumentException("workspaces or updated is out of range");
        }
        question.workspaces = workspaces;
        question.updated = updated;
        return search.findBest() ? PACKAGES - search.best.count(NONE) : NONE;
    }

    /** Returns the version of a package in the best solution, or NONE. */
    public int chosen(int at) throws IndexOutOfBoundsException {
        if (!isPackage(at)) {
            throw new IndexOutOfBoundsException("no such package");
        }
        return search.findBest() ? search.best.get(at) : NONE;
    }

    /** Returns the same, found by looking at all choices, one by one. */
    public int chosenAnew(int at) throws IndexOutOfBoundsException {
        if (!isPackage(at)) {
            throw new IndexOutOfBoundsException("no such package");
        }
        return census.findBest() ? census.best.get(at) : NONE;
    }

    /** Returns the features of a package that are on in the best solution. */
    public int features(int at) throws IndexOutOfBoundsException {
        if (!isPackage(at)) {
            throw new IndexOutOfBoundsException("no such package");
        }
        if (!search.findBest() || search.best.get(at) == NONE) {
            return 0;
        }
        return search.bestFeatures(at);
    }

    /** Returns how many solutions there are, 1000 if there are more. */
    public int solutions() {
        search.begin(question.demands(), NONE);
        int count = 0;
        while (count < MOST_SOLUTIONS && search.next()) {
            count++;
        }
        return count;
    }

    /** Returns the fewest demands that count and have no solution alone; 0 if all have one. */
    public int why() {
        int all = question.demands();
        if (search.isSolvable(all)) {
            return 0;
        }
        for (int size = 1; size <= DEMANDS; size++) {
            for (int set = 1; set <= all; set++) {
                if ((set & ~all) == 0 && Integer.bitCount(set) == size && !search.isSolvable(set)) {
                    return set;
                }
            }
        }
        return all;
    }

    /** Tells what is against a version. */
    public int against(int version) throws IndexOutOfBoundsException {
        if (!isVersion(version)) {
            throw new IndexOutOfBoundsException("no such version");
        }
        int flaw = world.flaw(version);
        if (flaw != FINE) {
            return flaw;
        }
        if (world.refuses(question.demands(), version)) {
            return REFUSED;
        }
        search.begin(question.demands(), version);
        if (!search.next()) {
            return IMPOSSIBLE;
        }
        int at = world.versions.owners.get(version);
        return search.findBest() && search.best.get(at) == version ? FINE : PASSED_OVER;
    }

    // ---- the lock

    /** Locks the best solution; returns for how many packages the lock is another one then. */
    public int lock() throws IllegalStateException {
        if (!search.findBest()) {
            throw new IllegalStateException("there is no solution");
        }
        int changes = 0;
        for (int at = 0; at < PACKAGES; at++) {
            int version = search.best.get(at);
            if (world.locked.exchange(at, version) != version) {
                changes++;
            }
        }
        return changes;
    }

    /** Takes a package out of the lock; returns the version that it had in it, or NONE. */
    public int unlock(int at) throws IndexOutOfBoundsException {
        if (!isPackage(at)) {
            throw new IndexOutOfBoundsException("no such package");
        }
        return world.locked.exchange(at, NONE);
    }

    // ---- the disk

    /** Installs the best solution, and returns how many steps were made. */
    public int install(int steps) throws IllegalArgumentException, IllegalStateException {
        if (steps < 1 || steps > MOST_STEPS) {
            throw new IllegalArgumentException("steps is out of range");
        }
        if (!search.findBest()) {
            throw new IllegalStateException("there is no solution");
        }
        int made = 0;
        for (int at = 0; at < PACKAGES && made < steps; at++) {
            int version = search.best.get(at);
            int sum = world.versions.sums.get(version);
            if (disk.differs(at, version, sum)) {
                disk.put(at, version, sum);
                made++;
            }
        }
        return made;
    }

    /** Adds 1 to the sum of a package on the disk, and returns it. */
    public int spoil(int at) throws IndexOutOfBoundsException, IllegalStateException {
        if (!isPackage(at)) {
            throw new IndexOutOfBoundsException("no such package");
        }
        if (disk.versions.get(at) == NONE) {
            throw new IllegalStateException("the package is not on the disk");
        }
        int sum = disk.sums.get(at) + 1;
        disk.sums.set(at, sum);
        return sum;
    }

    /** Returns what the disk has of a package, or NONE. */
    public int onDisk(int at) throws IndexOutOfBoundsException {
        if (!isPackage(at)) {
            throw new IndexOutOfBoundsException("no such package");
        }
        int version = disk.versions.get(at);
        return version == NONE ? NONE : DISK_UNIT * version + disk.sums.get(at);
    }

    /** Returns how many steps an install would make that is not cut off, or NONE. */
    public int pending() {
        if (!search.findBest()) {
            return NONE;
        }
        int steps = 0;
        for (int at = 0; at < PACKAGES; at++) {
            int version = search.best.get(at);
            if (disk.differs(at, version, world.versions.sums.get(version))) {
                steps++;
            }
        }
        return steps;
    }

    // ---- what the calls share

    private static boolean isUpTo(int last, int value) {
        return value >= 0 && value <= last;
    }

    private static boolean isDigit(int value) {
        return isUpTo(HIGHEST_DIGIT, value);
    }

    private static boolean isPackage(int at) {
        return isUpTo(PACKAGES - 1, at);
    }

    private boolean isVersion(int version) {
        return isUpTo(world.versions.count - 1, version);
    }

    private boolean isRange(int range) {
        return isUpTo(world.ranges.count - 1, range);
    }

    private static boolean isIn(int set, int element) {
        return element >= 0 && (set >> element & 1) == 1;
    }

    /** The numbers of a version as one number, greater for a greater version. */
    private static int rankOf(int first, int second, int third, int pre) {
        int numbers = (first << RANK_DIGIT | second) << RANK_DIGIT | third;
        return numbers << RANK_DIGIT | (pre == 0 ? WITHOUT_PRE : pre);
    }

    /** The three numbers of a rank, without its pre. */
    private static int triple(int rank) {
        return rank >> RANK_DIGIT;
    }

    private static boolean hasPre(int rank) {
        return (rank & RANK_MASK) != WITHOUT_PRE;
    }

    private static boolean hasWholeVersion(int kind) {
        return kind != ALL && kind != WILD_MINOR && kind != WILD_PATCH;
    }

    /** The rank that all versions of a range are below. */
    private static int endOf(int kind, int a, int b, int c, int own) {
        switch (kind) {
            case EXACT:
                return own + 1;
            case BELOW:
                return own;
            case CARET:
                return endOfCompatible(a, b, c);
            case TILDE:
            case WILD_PATCH:
                return rankOf(a, b + 1, 0, 0);
            case WILD_MINOR:
                return rankOf(a + 1, 0, 0, 0);
            default:
                return ABOVE_ALL_RANKS;
        }
    }

    private static int endOfCompatible(int a, int b, int c) {
        if (a > 0) {
            return rankOf(a + 1, 0, 0, 0);
        }
        return b > 0 ? rankOf(0, b + 1, 0, 0) : rankOf(0, 0, c + 1, 0);
    }

    /** A row of numbers that is read and written only where it has a cell. */
    private static final class Row {
        private final int[] cells;

        Row(int length, int value) {
            cells = new int[length > 0 ? length : 0];
            Arrays.fill(cells, value);
        }

        int get(int index) {
            return index >= 0 && index < cells.length ? cells[index] : NONE;
        }

        void set(int index, int value) {
            if (index >= 0 && index < cells.length) {
                cells[index] = value;
            }
        }

        int exchange(int index, int value) {
            int before = get(index);
            set(index, value);
            return before;
        }

        /** Adds a set to the one in a cell; returns whether that grew. */
        boolean merge(int index, int set) {
            if (index < 0 || index >= cells.length) {
                return false;
            }
            int before = cells[index];
            cells[index] = before | set;
            return cells[index] != before;
        }

        void fill(int value) {
            Arrays.fill(cells, value);
        }

        void copy(Row other) {
            for (int index = 0; index < cells.length; index++) {
                cells[index] = other.get(index);
            }
        }

        int count(int value) {
            int count = 0;
            for (int index = 0; index < cells.length; index++) {
                if (cells[index] == value) {
                    count++;
                }
            }
            return count;
        }
    }

    /** The versions that are published; sets of them are bits by their numbers. */
    private static final class Versions {
        final Row owners = new Row(VERSIONS, NONE);
        final Row ranks = new Row(VERSIONS, NONE);
        final Row sums = new Row(VERSIONS, NONE);
        final Row platforms = new Row(VERSIONS, ANY_OF_THREE);
        final Row brought = new Row(VERSIONS * FEATURES, 0);
        private final Row members = new Row(VERSIONS, NONE);
        private final Row sizes = new Row(PACKAGES, 0);
        private int yanked;
        private int secondary;
        private int packagesAtFirstPlace;
        int count;

        boolean isFull(int at) {
            return sizes.get(at) >= VERSIONS_EACH || count >= VERSIONS;
        }

        boolean hasRank(int at, int rank) {
            for (int i = 0; i < VERSIONS_EACH; i++) {
                if (ranks.get(member(at, i)) == rank) {
                    return true;
                }
            }
            return false;
        }

        int add(int at, int rank, int ownSum, int place) {
            int version = count;
            owners.set(version, at);
            ranks.set(version, rank);
            sums.set(version, (31 * version + ownSum) % SUM_MODULUS);
            members.set(at * VERSIONS_EACH + sizes.get(at), version);
            sizes.set(at, sizes.get(at) + 1);
            if (place == 0) {
                packagesAtFirstPlace |= 1 << at;
            } else {
                secondary |= 1 << version;
            }
            count++;
            return version;
        }

        /** A version of a package, by the order in which they came; NONE after the last one. */
        int member(int at, int i) {
            return isUpTo(VERSIONS_EACH - 1, i) ? members.get(at * VERSIONS_EACH + i) : NONE;
        }

        boolean toggleYanked(int version) {
            yanked ^= 1 << version;
            return isYanked(version);
        }

        boolean isYanked(int version) {
            return isIn(yanked, version);
        }

        boolean isHidden(int version) {
            return isIn(secondary, version) && isIn(packagesAtFirstPlace, owners.get(version));
        }

        /** What the features of a set bring, each by itself. */
        int broughtBy(int version, int features) {
            int result = 0;
            for (int feature = 0; feature < FEATURES; feature++) {
                if (isIn(features, feature)) {
                    result |= brought.get(version * FEATURES + feature);
                }
            }
            return result;
        }
    }

    /**
     * The ranges. Each keeps the set of the versions that it has, so that a range made of ranges
     * made of ranges never asks these again.
     */
    private static final class Ranges {
        private final Row kinds = new Row(RANGES, ALL);
        private final Row froms = new Row(RANGES, 0);
        private final Row ends = new Row(RANGES, 0);
        private final Row triplesWithPre = new Row(RANGES, NONE);
        private final Row lefts = new Row(RANGES, NONE);
        private final Row rights = new Row(RANGES, NONE);
        final Row held = new Row(RANGES, 0);
        int count;

        boolean isFull() {
            return count >= RANGES;
        }

        int add(int from, int end, int tripleWithPre, Versions versions) {
            int range = count;
            froms.set(range, from);
            ends.set(range, end);
            triplesWithPre.set(range, tripleWithPre);
            for (int version = 0; version < versions.count; version++) {
                if (reaches(range, versions.ranks.get(version))) {
                    held.merge(range, 1 << version);
                }
            }
            count++;
            return range;
        }

        int addJoined(int kind, int left, int right) {
            int range = count;
            kinds.set(range, kind);
            lefts.set(range, left);
            rights.set(range, right);
            int leftHeld = held.get(left);
            int rightHeld = held.get(right);
            held.set(range, kind == BOTH ? leftHeld & rightHeld : leftHeld | rightHeld);
            count++;
            return range;
        }

        /** Looks at a new version; a joined range stands behind those that it is made of. */
        void take(int version, int rank) {
            for (int range = 0; range < count; range++) {
                int kind = kinds.get(range);
                boolean left = holds(lefts.get(range), version);
                boolean right = holds(rights.get(range), version);
                boolean takes = kind == BOTH ? left && right
                        : kind == EITHER ? left || right : reaches(range, rank);
                if (takes) {
                    held.merge(range, 1 << version);
                }
            }
        }

        boolean holds(int range, int version) {
            return isUpTo(count - 1, range) && isIn(held.get(range), version);
        }

        private boolean reaches(int range, int rank) {
            return rank >= froms.get(range) && rank < ends.get(range)
                    && (!hasPre(rank) || triplesWithPre.get(range) == triple(rank));
        }
    }

    /** The needs of all versions; those of one stand from first(version) to below end(version). */
    private static final class Needs {
        final Row targets = new Row(NEEDS, NONE);
        final Row ranges = new Row(NEEDS, NONE);
        final Row kinds = new Row(NEEDS, NORMAL);
        final Row triggers = new Row(NEEDS, NONE);
        final Row platforms = new Row(NEEDS, 0);
        final Row asked = new Row(NEEDS, 0);
        private final Row sizes = new Row(VERSIONS, 0);

        boolean isFull(int version) {
            return sizes.get(version) >= NEEDS_EACH;
        }

        int add(int version, int target, int range, int kind, int trigger, int platformSet,
                int features) {
            int place = end(version);
            targets.set(place, target);
            ranges.set(place, range);
            kinds.set(place, kind);
            triggers.set(place, trigger);
            platforms.set(place, platformSet);
            asked.set(place, features);
            sizes.set(version, sizes.get(version) + 1);
            return sizes.get(version);
        }

        int first(int version) {
            return version * NEEDS_EACH;
        }

        /** For NONE it is before the first one, so that no loop goes through the needs of NONE. */
        int end(int version) {
            return version * NEEDS_EACH + sizes.get(version);
        }
    }

    /** The demands; sets of them are bits by their numbers. */
    private static final class Demands {
        final Row workspaces = new Row(DEMANDS, NONE);
        final Row targets = new Row(DEMANDS, NONE);
        final Row ranges = new Row(DEMANDS, NONE);
        final Row asked = new Row(DEMANDS, 0);
        int count;

        boolean isFull() {
            return count >= DEMANDS;
        }

        int add(int workspace, int target, int range, int features) {
            int demand = count;
            workspaces.set(demand, workspace);
            targets.set(demand, target);
            ranges.set(demand, range);
            asked.set(demand, features);
            count++;
            return demand;
        }

        int ofWorkspaces(int set) {
            int result = 0;
            for (int demand = 0; demand < count; demand++) {
                if (isIn(set, workspaces.get(demand))) {
                    result |= 1 << demand;
                }
            }
            return result;
        }
    }

    /** All that is told, and the lock. */
    private static final class World {
        final Versions versions = new Versions();
        final Ranges ranges = new Ranges();
        final Needs needs = new Needs();
        final Demands demands = new Demands();
        final Row locked = new Row(PACKAGES, NONE);
        private final Row advisedPackages = new Row(ADVISORIES, NONE);
        private final Row advisedRanges = new Row(ADVISORIES, NONE);
        private final Row successors = new Row(PACKAGES, NONE);
        private final Row heirs = new Row(PACKAGES, NONE);
        int advisories;
        int platform;

        World() {
            for (int at = 0; at < PACKAGES; at++) {
                heirs.set(at, at);
            }
        }

        int warn(int at, int range) {
            advisedPackages.set(advisories, at);
            advisedRanges.set(advisories, range);
            advisories++;
            return advisories;
        }

        /** What is against a version whatever is solved; FINE if it can be used. */
        int flaw(int version) {
            int at = versions.owners.get(version);
            if (versions.isHidden(version)) {
                return HIDDEN;
            }
            if (versions.isYanked(version) && locked.get(at) != version) {
                return YANKED;
            }
            if (!isIn(versions.platforms.get(version), platform)) {
                return FOREIGN;
            }
            for (int i = 0; i < advisories; i++) {
                if (advisedPackages.get(i) == at && ranges.holds(advisedRanges.get(i), version)) {
                    return BAD;
                }
            }
            return FINE;
        }

        /** The set of the versions that can be used. */
        int usable() {
            int result = 0;
            for (int version = 0; version < versions.count; version++) {
                if (flaw(version) == FINE) {
                    result |= 1 << version;
                }
            }
            return result;
        }

        int nextUsable(int version) {
            int at = versions.owners.get(version);
            int result = NONE;
            for (int i = 0; i < VERSIONS_EACH; i++) {
                int member = versions.member(at, i);
                int rank = versions.ranks.get(member);
                if (rank > versions.ranks.get(version) && flaw(member) == FINE
                        && (result == NONE || rank < versions.ranks.get(result))) {
                    result = member;
                }
            }
            return result;
        }

        /** Whether a package is the other one, or is replaced by it over others or not. */
        boolean leadsTo(int at, int other) {
            int next = at;
            for (int i = 0; i < PACKAGES && next != NONE; i++) {
                if (next == other) {
                    return true;
                }
                next = successors.get(next);
            }
            return false;
        }

        int redirect(int at, int other) {
            int before = successors.exchange(at, other);
            for (int any = 0; any < PACKAGES; any++) {
                heirs.set(any, lastSuccessor(any));
            }
            return before;
        }

        private int lastSuccessor(int at) {
            int last = at;
            for (int i = 0; i < PACKAGES && successors.get(last) != NONE; i++) {
                last = successors.get(last);
            }
            return last;
        }

        int targetOfDemand(int demand) {
            return heirs.get(demands.targets.get(demand));
        }

        int targetOfNeed(int need) {
            return heirs.get(needs.targets.get(need));
        }

        /** Whether a need counts where these features of its own package are on. */
        boolean counts(int need, int features) {
            int trigger = needs.triggers.get(need);
            return isIn(needs.platforms.get(need), platform)
                    && (trigger == NONE || isIn(features, trigger));
        }

        /** The set of the packages that a version pulls where these features of it are on. */
        int pulledBy(int version, int features) {
            int result = 0;
            int end = needs.end(version);
            for (int need = needs.first(version); need < end; need++) {
                if (needs.kinds.get(need) != PEER && counts(need, features)) {
                    result |= 1 << targetOfNeed(need);
                }
            }
            return result;
        }

        boolean refuses(int demandSet, int version) {
            int at = versions.owners.get(version);
            for (int demand = 0; demand < demands.count; demand++) {
                if (isIn(demandSet, demand) && targetOfDemand(demand) == at
                        && !ranges.holds(demands.ranges.get(demand), version)) {
                    return true;
                }
            }
            return false;
        }

        /** The set of the packages that are demanded. */
        int demanded(int demandSet) {
            int result = 0;
            for (int demand = 0; demand < demands.count; demand++) {
                if (isIn(demandSet, demand)) {
                    result |= 1 << targetOfDemand(demand);
                }
            }
            return result;
        }
    }

    /** What was solved last, and what makes one solution of it better than another one. */
    private static final class Question {
        private final World world;
        int workspaces;
        int updated;

        Question(World newWorld) {
            world = newWorld;
        }

        int demands() {
            return world.demands.ofWorkspaces(workspaces);
        }

        /** How many of the packages up to the last one differ from a lock that should be kept. */
        int changes(Row picks, int last) {
            int changes = 0;
            for (int at = 0; at <= last; at++) {
                int locked = world.locked.get(at);
                if (locked != NONE && !isIn(updated, at) && picks.get(at) != locked) {
                    changes++;
                }
            }
            return changes;
        }

        /** Greater for a version, or NONE, that is rather chosen for a package. */
        int worth(int at, int version) {
            boolean isLocked = version != NONE && world.locked.get(at) == version;
            if (isLocked && !isIn(updated, at)) {
                return ABOVE_ALL_RANKS;
            }
            return world.versions.ranks.get(version);
        }
    }

    /** A version, or NONE, for each package, and the features that are on by that. */
    private static final class Choice {
        private final World world;
        final Row picks = new Row(PACKAGES, NONE);
        final Row on = new Row(PACKAGES, 0);

        Choice(World newWorld) {
            world = newWorld;
        }

        boolean isSolution(int demands) {
            if (!meets(demands)) {
                return false;
            }
            turnOn(demands);
            return standsUpTo(PACKAGES - 1) && isPulled(demands);
        }

        private boolean meets(int demands) {
            for (int demand = 0; demand < world.demands.count; demand++) {
                int version = picks.get(world.targetOfDemand(demand));
                if (isIn(demands, demand)
                        && !world.ranges.holds(world.demands.ranges.get(demand), version)) {
                    return false;
                }
            }
            return true;
        }

        /**
         * Whether the needs among the packages up to the last one hold; the features must be on
         * already. The later packages may have no version yet: versions chosen later only turn on
         * more features, so that a need that counts now counts then too.
         */
        boolean standsUpTo(int last) {
            for (int at = 0; at <= last; at++) {
                if (!holdsNeeds(at, last)) {
                    return false;
                }
            }
            return true;
        }

        private boolean holdsNeeds(int at, int last) {
            int version = picks.get(at);
            int end = world.needs.end(version);
            for (int need = world.needs.first(version); need < end; need++) {
                int target = world.targetOfNeed(need);
                if (target <= last && world.counts(need, on.get(at))
                        && !isServed(need, picks.get(target))) {
                    return false;
                }
            }
            return true;
        }

        private boolean isServed(int need, int version) {
            if (version == NONE) {
                return world.needs.kinds.get(need) == OPTIONAL;
            }
            return isIn(world.ranges.held.get(world.needs.ranges.get(need)), version);
        }

        /** Finds the least sets of features; each round but the last one turns on one at least. */
        void turnOn(int demands) {
            on.fill(0);
            for (int demand = 0; demand < world.demands.count; demand++) {
                if (isIn(demands, demand)) {
                    on.merge(world.targetOfDemand(demand), world.demands.asked.get(demand));
                }
            }
            boolean grew = true;
            for (int round = 0; grew && round <= PACKAGES * FEATURES; round++) {
                grew = false;
                for (int at = 0; at < PACKAGES; at++) {
                    if (turnOnBy(at)) {
                        grew = true;
                    }
                }
            }
        }

        private boolean turnOnBy(int at) {
            int version = picks.get(at);
            if (version == NONE) {
                return false;
            }
            boolean grew = on.merge(at, world.versions.broughtBy(version, on.get(at)));
            int end = world.needs.end(version);
            for (int need = world.needs.first(version); need < end; need++) {
                int asked = world.needs.asked.get(need);
                if (asked != 0 && world.counts(need, on.get(at))
                        && on.merge(world.targetOfNeed(need), asked)) {
                    grew = true;
                }
            }
            return grew;
        }

        /** Whether each package with a version is pulled; the features must be on already. */
        boolean isPulled(int demands) {
            int pulled = world.demanded(demands);
            for (int round = 0; round < PACKAGES; round++) {
                for (int at = 0; at < PACKAGES; at++) {
                    if (isIn(pulled, at)) {
                        pulled |= world.pulledBy(picks.get(at), on.get(at));
                    }
                }
            }
            for (int at = 0; at < PACKAGES; at++) {
                if (picks.get(at) != NONE && !isIn(pulled, at)) {
                    return false;
                }
            }
            return true;
        }
    }

    /** Goes through the solutions, the better ones first among those that change the lock alike. */
    private static final class Search {
        private final World world;
        private final Question question;
        private final Choice choice;
        final Row best = new Row(PACKAGES, NONE);
        private final Row offers = new Row(PACKAGES * CHOICES_EACH, NONE);
        private final Row offered = new Row(PACKAGES, 0);
        private final Row tried = new Row(PACKAGES, 0);
        private int demands;
        private int mostChanges;
        private int at;

        Search(World newWorld, Question newQuestion) {
            world = newWorld;
            question = newQuestion;
            choice = new Choice(newWorld);
        }

        /** Finds the best solution; returns false if there is none. */
        boolean findBest() {
            begin(question.demands(), NONE);
            best.fill(NONE);
            boolean found = false;
            for (int i = 0; i <= PACKAGES && next(); i++) {
                best.copy(choice.picks);
                found = true;
                mostChanges = question.changes(best, PACKAGES - 1) - 1;
            }
            return found;
        }

        /** The features of a package that are on in the solution that findBest() has found. */
        int bestFeatures(int ofPackage) {
            choice.picks.copy(best);
            choice.turnOn(demands);
            return choice.on.get(ofPackage);
        }

        boolean isSolvable(int demandSet) {
            begin(demandSet, NONE);
            return next();
        }

        /** Starts anew, for some demands; only for solutions with a wanted version, if not NONE. */
        void begin(int demandSet, int wanted) {
            demands = demandSet;
            mostChanges = PACKAGES;
            at = 0;
            tried.fill(0);
            choice.picks.fill(NONE);
            int usable = world.usable();
            int reachable = reachable(usable);
            for (int any = 0; any < PACKAGES; any++) {
                offerAll(any, isIn(reachable, any) ? usable : 0, wanted);
            }
        }

        private void offerAll(int any, int usable, int wanted) {
            boolean isWanted = world.versions.owners.get(wanted) == any;
            offered.set(any, 0);
            for (int i = 0; i < VERSIONS_EACH; i++) {
                int version = world.versions.member(any, i);
                if (isIn(usable, version) && (!isWanted || version == wanted)
                        && !world.refuses(demands, version)) {
                    offer(any, version);
                }
            }
            if (!isWanted && !isIn(world.demanded(demands), any)) {
                offer(any, NONE);
            }
        }

        /** Puts an offer among those of a package, behind the ones that are worth more. */
        private void offer(int any, int version) {
            int place = any * CHOICES_EACH + offered.get(any);
            int first = any * CHOICES_EACH;
            int worth = question.worth(any, version);
            while (place > first && question.worth(any, offers.get(place - 1)) < worth) {
                offers.set(place, offers.get(place - 1));
                place--;
            }
            offers.set(place, version);
            offered.set(any, offered.get(any) + 1);
        }

        /** The packages that the demands can pull, by any versions; others are in no solution. */
        private int reachable(int usable) {
            int result = world.demanded(demands);
            for (int round = 0; round < PACKAGES; round++) {
                for (int version = 0; version < world.versions.count; version++) {
                    if (isIn(usable, version) && isIn(result, world.versions.owners.get(version))) {
                        result |= world.pulledBy(version, ANY_OF_THREE);
                    }
                }
            }
            return result;
        }

        /** Goes on to the next solution, which the choice has then; false after the last one. */
        boolean next() {
            for (int move = 0; move < MOST_MOVES && at >= 0; move++) {
                if (!pickNext()) {
                    at--;
                    continue;
                }
                if (question.changes(choice.picks, at) > mostChanges) {
                    continue;
                }
                choice.turnOn(demands);
                if (!choice.standsUpTo(at)) {
                    continue;
                }
                if (at < PACKAGES - 1) {
                    at++;
                    tried.set(at, 0);
                } else if (choice.isPulled(demands)) {
                    return true;
                }
            }
            return false;
        }

        private boolean pickNext() {
            int place = tried.get(at);
            boolean more = place < offered.get(at);
            choice.picks.set(at, more ? offers.get(at * CHOICES_EACH + place) : NONE);
            tried.set(at, place + 1);
            return more;
        }
    }

    /** Finds the best solution by looking at all choices, one by one. */
    private static final class Census {
        private final World world;
        private final Question question;
        private final Choice choice;
        final Row best = new Row(PACKAGES, NONE);

        Census(World newWorld, Question newQuestion) {
            world = newWorld;
            question = newQuestion;
            choice = new Choice(newWorld);
        }

        boolean findBest() {
            int usable = world.usable();
            int demands = question.demands();
            best.fill(NONE);
            boolean found = false;
            for (int number = 0; number < CHOICES; number++) {
                if (pickAll(number, usable) && (!found || isBetter())
                        && choice.isSolution(demands)) {
                    best.copy(choice.picks);
                    found = true;
                }
            }
            return found;
        }

        /**
         * Makes the choice of a number, by its digits; returns false if there is no such one. The
         * later versions and the packages with low numbers come first, as good solutions found
         * early spare the test of the others.
         */
        private boolean pickAll(int number, int usable) {
            int rest = number;
            for (int at = PACKAGES - 1; at >= 0; at--) {
                int digit = rest % CHOICES_EACH;
                rest /= CHOICES_EACH;
                int version = world.versions.member(at, VERSIONS_EACH - 1 - digit);
                if (digit < VERSIONS_EACH && !isIn(usable, version)) {
                    return false;
                }
                choice.picks.set(at, version);
            }
            return true;
        }

        private boolean isBetter() {
            int changes = question.changes(choice.picks, PACKAGES - 1);
            int bestChanges = question.changes(best, PACKAGES - 1);
            if (changes != bestChanges) {
                return changes < bestChanges;
            }
            for (int at = 0; at < PACKAGES; at++) {
                int worth = question.worth(at, choice.picks.get(at));
                int bestWorth = question.worth(at, best.get(at));
                if (worth != bestWorth) {
                    return worth > bestWorth;
                }
            }
            return false;
        }
    }

    /** What is installed. */
    private static final class Disk {
        final Row versions = new Row(PACKAGES, NONE);
        final Row sums = new Row(PACKAGES, NONE);

        boolean differs(int at, int version, int sum) {
            return versions.get(at) != version || (version != NONE && sums.get(at) != sum);
        }

        void put(int at, int version, int sum) {
            versions.set(at, version);
            sums.set(at, sum);
        }
    }
}
