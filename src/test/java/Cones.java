import java.util.ArrayList;
import java.util.List;

/** Cones that stand at the document's limits. What is said of each is tested where it is used. */
final class Cones {
    /** No rows, in each dimension. */
    static final Cone[] EMPTY = {new Cone(2), new Cone(3), new Cone(4)};

    /** LINES is 1: one more row may make each of them pointed. */
    static final Cone[] ONE_LINE = {
        new Cone(2, new int[][] {{1, -2}, {-2, 4}, {2, -4}}),
        new Cone(3, new int[][] {{1, 2, 3}, {0, 1, 1}, {1, 3, 4}}),
        new Cone(4, new int[][] {{1, 0, 0, 1}, {0, 1, 0, 1}, {0, 0, 1, 1}})
    };

    /** Eight rows are there, and LINES is 1 all the same. */
    static final Cone[] FULL_WITH_A_LINE = {
        new Cone(2, new int[][] {{1, -1}, {2, -2}, {3, -3}, {4, -4}, {5, -5}, {-5, 5}, {-1, 1}, {1, -1}}),
        new Cone(3, new int[][] {
            {1, 0, 0}, {0, 1, 0}, {1, 1, 0}, {1, 2, 0}, {2, 1, 0}, {5, 5, 0}, {3, 4, 0}, {1, 5, 0}
        }),
        new Cone(4, new int[][] {
            {1, 0, 0, 0}, {0, 1, 0, 0}, {0, 0, 1, 0}, {1, 1, 0, 0},
            {0, 1, 1, 0}, {1, 0, 1, 0}, {1, 1, 1, 0}, {5, 1, 1, 0}
        })
    };

    /** More than one line. */
    static final Cone[] MORE_LINES = {
        new Cone(3, new int[] {5, 0, -5}), new Cone(4, new int[] {-5, 5, 1, 2}),
        new Cone(4, new int[][] {{1, 2, 3, 4}, {4, 3, 2, 1}})
    };

    /** No ray: nothing but the point 0, in each dimension. */
    static final Cone[] ZERO = {
        new Cone(2, new int[][] {{1, 0}, {-1, 1}, {-1, -1}}),
        new Cone(3, new int[][] {{1, 0, 0}, {0, 1, 0}, {0, 0, 1}, {-1, -1, -1}}),
        new Cone(4, new int[][] {{1, 0, 0, 0}, {0, 1, 0, 0}, {0, 0, 1, 0}, {0, 0, 0, 1}, {-1, -2, -3, -4}})
    };

    /** One ray: (1, -1), (31, 17, 29) and the long (-495, -455, -36, 95). */
    static final Cone[] HALF_LINE = {
        new Cone(2, new int[][] {{1, 1}, {-1, -1}, {0, -2}, {-1, -2}}),
        new Cone(3, new int[][] {{5, -4, -3}, {1, 5, -4}, {1, -5, 3}, {-1, -5, 4}, {-5, 4, 3}}),
        new Cone(4, new int[][] {
            {4, -5, -5, -5}, {-4, 5, 5, 5}, {-5, 5, -5, -4}, {5, -5, 5, 4}, {-5, 4, 5, -5}, {5, -4, -5, 5}, {0, 0, 0, 1}
        })
    };

    /** All coordinates are not below 0. */
    static final Cone[] ORTHANT = {
        new Cone(2, new int[][] {{1, 0}, {0, 1}}),
        new Cone(3, new int[][] {{1, 0, 0}, {0, 1, 0}, {0, 0, 1}}),
        new Cone(4, new int[][] {{1, 0, 0, 0}, {0, 1, 0, 0}, {0, 0, 1, 0}, {0, 0, 0, 1}})
    };

    /** All coordinates are not above 0. */
    static final Cone[] NEGATIVE_ORTHANT = {
        new Cone(2, new int[][] {{-1, 0}, {0, -1}}),
        new Cone(3, new int[][] {{-1, 0, 0}, {0, -1, 0}, {0, 0, -1}}),
        new Cone(4, new int[][] {{-1, 0, 0, 0}, {0, -1, 0, 0}, {0, 0, -1, 0}, {0, 0, 0, -1}})
    };

    /** SIZE is less than the dimension: 2 of 3, 2 of 4 and 3 of 4. */
    static final Cone[] FLAT = {
        new Cone(3, new int[][] {{0, 0, 1}, {0, 0, -1}, {1, 2, 0}, {1, -2, 5}, {2, -4, 0}}),
        new Cone(4, new int[][] {
            {0, 0, 1, 0}, {0, 0, -1, 0}, {1, 0, 0, -1}, {-1, 0, 0, 1}, {0, 1, 0, 0}, {2, -1, 0, 0}
        }),
        new Cone(4, new int[][] {{1, 1, 0, 0}, {-1, -1, 0, 0}, {1, 0, 0, 0}, {0, 0, 1, 0}, {1, 0, -1, 1}, {0, 0, 0, 1}})
    };

    /** Eight rays, in a cone that is not LARGE. The last one has an INDEX of 12 too. */
    static final Cone OCTAGON = new Cone(3, new int[][] {
        {0, 1, 0}, {-1, 1, 2}, {-1, 0, 3}, {-1, -1, 5}, {0, -1, 3}, {1, -1, 2}, {1, 0, 0}, {1, 1, -1}
    });
    static final Cone CUBE = new Cone(4, new int[][] {
        {1, 0, 0, 0}, {-1, 0, 0, 1}, {0, 1, 0, 0}, {0, -1, 0, 1}, {0, 0, 1, 0}, {0, 0, -1, 1}
    });
    static final Cone EIGHT_RAYS_INDEX_TWELVE = new Cone(4, new int[][] {
        {-1, -1, 0, 1}, {-1, -1, -1, -1}, {-1, 1, -1, -1}, {-1, 0, 0, 0}, {0, -1, 0, -1}, {0, -1, 1, 0}
    });

    /** Nine to twelve rays, with no INDEX above 6: LARGE by the number of rays alone. */
    static final Cone[] MANY_RAYS = {
        new Cone(4, new int[][] {
            {0, 1, 0, 0}, {0, 0, 1, 1}, {-1, 1, 0, 1}, {-1, 1, -1, 1},
            {0, 1, -1, 1}, {1, 1, -1, 0}, {1, 1, 0, 0}, {0, 1, -1, 0}
        }),
        new Cone(4, new int[][] {
            {-1, -1, -1, 0}, {1, 0, 0, 1}, {0, 0, 1, 1}, {1, 0, 1, 1},
            {-1, 0, 0, 1}, {0, 1, 0, 1}, {1, 1, 1, 1}, {0, 0, -1, 1}
        }),
        new Cone(4, new int[][] {
            {-1, -1, 0, 1}, {0, 1, 0, 1}, {1, -1, 0, 1}, {1, -1, 1, 2},
            {0, 1, -1, 1}, {-1, 1, -1, 0}, {0, -1, 1, 1}, {-1, 1, 0, 1}
        }),
        new Cone(4, new int[][] {
            {0, 0, 1, 1}, {1, 1, -1, 0}, {0, -1, 0, 1}, {0, 1, 1, 1},
            {0, 1, 0, 1}, {-1, -1, 1, 1}, {0, 0, -1, 1}, {0, -1, -1, 1}
        })
    };

    /** The greatest INDEX is 12: SIZE 2 in two, three and four dimensions, 3 in three and four, 4 in four. */
    static final Cone[] INDEX_TWELVE = {
        new Cone(2, new int[][] {{-2, -3}, {-2, 3}}),
        new Cone(3, new int[][] {{-1, -2, -2}, {-2, 2, -1}, {-1, 0, 1}, {1, 0, -1}}),
        new Cone(4, new int[][] {{2, -3, -2, -2}, {0, 2, 2, 1}, {-2, -1, -2, 0}, {2, -1, -3, -1}, {2, -1, 1, 2}}),
        new Cone(3, new int[][] {{-1, -2, 1}, {-1, -2, -2}, {2, -2, 1}}),
        new Cone(4, new int[][] {{-1, 0, 2, -2}, {-2, 0, -2, -1}, {1, 0, -2, -1}, {-2, 2, 0, 0}, {2, -2, 0, 0}}),
        new Cone(4, new int[][] {{0, -2, -1, 0}, {2, 1, -1, 1}, {2, 1, 2, 1}, {0, -1, -1, -1}}),
        new Cone(3, new int[][] {{-1, -1, -1}, {1, 0, -1}, {-1, 1, 0}, {1, 1, -1}}),
        new Cone(3, new int[][] {{-2, -1, -2}, {-2, -1, 2}, {-1, 1, -1}, {-2, 2, -1}, {-2, -2, 0}})
    };

    /** The greatest INDEX is 13, in the same order of SIZE and dimension, and with more rays than SIZE. */
    static final Cone[] INDEX_THIRTEEN = {
        new Cone(2, new int[][] {{-2, -3}, {-3, 2}}),
        new Cone(3, new int[][] {{-1, -1, 0}, {1, 1, 0}, {2, 0, -3}, {1, -2, 2}}),
        new Cone(4, new int[][] {{-2, 2, 1, 0}, {2, 1, 0, 1}, {0, 0, -2, 2}, {-1, 2, 0, -1}, {2, -2, 0, -1}}),
        new Cone(3, new int[][] {{-1, 0, 0}, {-2, -2, 3}, {3, 3, 2}}),
        new Cone(4, new int[][] {{-2, -3, 3, -1}, {-1, 2, 2, 0}, {0, 3, 0, -3}, {1, -1, 0, 2}, {-1, 1, 0, -2}}),
        new Cone(4, new int[][] {{-4, -4, 4, -5}, {-4, 4, -5, 3}, {0, 5, -5, 5}, {1, 1, -1, -2}}),
        new Cone(3, new int[][] {{-1, -2, 3}, {1, 0, 1}, {2, -3, 2}, {-1, -1, 0}}),
        new Cone(4, new int[][] {{-2, -1, 1, -1}, {0, 1, 2, 0}, {0, 0, -1, -2}, {0, 0, 1, 1}, {-1, 0, -1, 1}}),
        new Cone(4, new int[][] {
            {1, -1, 1, -1}, {0, -1, -1, -1}, {1, 0, -1, -1}, {-1, -1, 0, 1}, {-1, -1, 1, 1}, {1, -1, 0, 0}
        })
    };

    /** Its corners by turns have the INDEX 16, though it can be cut into simplices of INDEX 8 alone. */
    static final Cone GREAT_CUBE = new Cone(4, new int[][] {
        {1, 0, 0, 1}, {-1, 0, 0, 1}, {0, 1, 0, 1}, {0, -1, 0, 1}, {0, 0, 1, 1}, {0, 0, -1, 1}
    });

    /** Eight rows, pointed and not LARGE, in each dimension. */
    static final Cone[] FULL = {
        new Cone(2, new int[][] {{1, 0}, {0, 1}, {1, 1}, {1, 2}, {2, 1}, {5, 0}, {0, 5}, {1, 0}}),
        OCTAGON,
        CUBE.with(1, 1, 1, 1).with(-1, -1, -1, 4)
    };

    /** Long points: coordinates up to 394, with six points of BASIS. */
    static final Cone LONG_POINTS = new Cone(4, new int[][] {
        {4, -4, -5, -3}, {5, 2, 5, 2}, {3, 2, 5, 0}, {-1, -5, 5, 3}, {-5, 5, 3, 2}, {-4, 1, -4, -3}
    });

    private Cones() {
    }

    static List<Cone> notPointed() {
        return join(EMPTY, ONE_LINE, FULL_WITH_A_LINE, MORE_LINES);
    }

    static List<Cone> large() {
        return join(MANY_RAYS, INDEX_THIRTEEN, new Cone[] {GREAT_CUBE});
    }

    /** Pointed and not LARGE. */
    static List<Cone> small() {
        Cone[] others = {CUBE, EIGHT_RAYS_INDEX_TWELVE, LONG_POINTS};
        return join(ZERO, HALF_LINE, ORTHANT, NEGATIVE_ORTHANT, FLAT, INDEX_TWELVE, FULL, others);
    }

    static List<Cone> pointed() {
        return join(small().toArray(new Cone[0]), large().toArray(new Cone[0]));
    }

    static List<Cone> all() {
        return join(notPointed().toArray(new Cone[0]), pointed().toArray(new Cone[0]));
    }

    private static List<Cone> join(Cone[]... groups) {
        List<Cone> joined = new ArrayList<>();
        for (Cone[] group : groups) {
            joined.addAll(List.of(group));
        }
        return joined;
    }
}
