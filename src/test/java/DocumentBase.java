/** What the tests that go through the document have in common: worlds, and the sentences. */
abstract class DocumentBase {
    static final int NONE = Resolverium.NONE;
    static final Class<?> INDEX = IndexOutOfBoundsException.class;
    static final Class<?> ARGUMENT = IllegalArgumentException.class;
    static final Class<?> STATE = IllegalStateException.class;

    final Sentences doc = new Sentences();

    static Sentences.Right right(World world, String name, int... arguments) {
        return new Sentences.Right(world, name, arguments);
    }

    static Resolverium busy() {
        return World.BUSY.make();
    }

    /** A world with the range 0, which is ALL. */
    static Resolverium plain() {
        Resolverium x = new Resolverium();
        x.range(Resolverium.ALL, 0, 0, 0, 0);
        return x;
    }

    static int exact(Resolverium x, int first) {
        return x.range(Resolverium.EXACT, first, 0, 0, 0);
    }

    static int publish(Resolverium x, int at, int first) {
        return x.publish(at, first, 0, 0, 0, 0);
    }

    static void need(Resolverium x, int version, int target, int range, int kind) {
        x.need(version, target, range, kind, NONE, 7, 0);
    }

    /** A version in each package, the number of which is that of the package, and a demand of each. */
    static Resolverium sixDemanded() {
        Resolverium x = plain();
        for (int at = 0; at < 6; at++) {
            publish(x, at, 1);
            x.demand(at % 3, at, 0, 0);
        }
        return x;
    }
}
