import java.util.List;

/** Worlds in which calls are refused, or are not; each is made anew by the same calls. */
enum World {
    /** Nothing is told. */
    EMPTY {
        @Override
        Resolverium make() {
            return new Resolverium();
        }
    },

    /** Something of everything, but nothing full. */
    BUSY {
        @Override
        Resolverium make() {
            Resolverium x = new Resolverium();
            x.range(Resolverium.ALL, 0, 0, 0, 0);
            x.range(Resolverium.CARET, 1, 0, 0, 0);
            x.range(Resolverium.EXACT, 2, 0, 0, 0);
            x.join(Resolverium.EITHER, 1, 2);
            x.range(Resolverium.EXACT, 1, 0, 0, 1);
            x.publish(0, 1, 0, 0, 0, 0);
            x.publish(0, 2, 0, 0, 0, 0);
            x.publish(0, 3, 0, 0, 0, 0);
            x.publish(1, 1, 0, 0, 0, 0);
            x.publish(1, 2, 0, 0, 0, 0);
            x.publish(2, 1, 0, 0, 0, 0);
            x.publish(2, 1, 0, 0, 1, 1);
            x.publish(3, 1, 0, 0, 0, 0);
            x.publish(5, 1, 0, 0, 0, 0);
            x.publish(5, 2, 0, 0, 0, 0);
            x.need(1, 1, 0, Resolverium.NORMAL, Resolverium.NONE, 7, 1);
            x.need(1, 2, 0, Resolverium.OPTIONAL, 2, 7, 0);
            x.need(4, 3, 0, Resolverium.PEER, 1, 7, 0);
            x.need(9, 2, 0, Resolverium.NORMAL, Resolverium.NONE, 3, 0);
            x.bring(1, 0, 2);
            x.demand(0, 0, 3, 1);
            x.demand(1, 4, 0, 0);
            x.demand(2, 3, 2, 0);
            x.replace(4, 5);
            x.setPlatforms(2, 5);
            x.yank(9);
            x.solve(3, 0);
            x.lock();
            x.install(10);
            x.spoil(0);
            x.yank(9);
            x.yank(4);
            x.advise(0, 4);
            x.setPlatform(1);
            x.solve(3, 1 << 5);
            return x;
        }
    },

    /** As many versions, ranges, demands and advisories as there may be, and needs of 0 and 23. */
    FULL {
        @Override
        Resolverium make() {
            Resolverium x = new Resolverium();
            x.range(Resolverium.ALL, 0, 0, 0, 0);
            for (int range = 1; range < 30; range++) {
                x.range(Resolverium.EXACT, 1 + range % 4, 0, 0, 0);
            }
            for (int version = 0; version < 24; version++) {
                x.publish(version / 4, 1 + version % 4, 0, 0, 0, 0);
            }
            for (int i = 0; i < 5; i++) {
                x.need(0, i, 0, Resolverium.OPTIONAL, Resolverium.NONE, 7, 0);
                x.need(23, i, 0, Resolverium.OPTIONAL, Resolverium.NONE, 7, 0);
            }
            for (int demand = 0; demand < 6; demand++) {
                x.demand(demand % 3, demand, 0, 0);
            }
            for (int advisory = 0; advisory < 8; advisory++) {
                x.advise(advisory % 6, 3);
            }
            x.solve(7, 0);
            x.lock();
            x.install(3);
            return x;
        }
    },

    /** There is no solution, but a lock and a disk from before that. */
    STUCK {
        @Override
        Resolverium make() {
            Resolverium x = new Resolverium();
            x.range(Resolverium.ALL, 0, 0, 0, 0);
            x.publish(0, 1, 0, 0, 0, 0);
            x.publish(1, 1, 0, 0, 0, 0);
            x.demand(0, 0, 0, 0);
            x.demand(1, 1, 0, 0);
            x.solve(3, 0);
            x.lock();
            x.install(1);
            x.demand(0, 2, 0, 0);
            return x;
        }
    };

    private List<String> answers;

    abstract Resolverium make();

    /** What one that is just made answers to all that can be asked of it. */
    List<String> untouched() {
        if (answers == null) {
            answers = Calls.probe(make());
        }
        return answers;
    }
}
