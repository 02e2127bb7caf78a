import java.util.List;

/** Counts the answers that are not as due and prints each of them. */
final class Checks {
    static final Class<IllegalArgumentException> ARGUMENT = IllegalArgumentException.class;
    static final Class<IllegalStateException> STATE = IllegalStateException.class;
    static final Class<IndexOutOfBoundsException> INDEX = IndexOutOfBoundsException.class;

    private int made;
    private int wrong;

    interface Call {
        void run();
    }

    /** One of the calls row, ray and point. */
    interface Coordinates {
        int at(int which, int i);
    }

    /** An object with these rows; numbers beyond the dimension are 77, as nothing of them counts. */
    static ConeDesk desk(int dimension, int[][] rows) {
        ConeDesk desk = new ConeDesk(dimension);
        for (int[] row : rows) {
            int[] four = four(row);
            desk.add(four[0], four[1], four[2], four[3]);
        }
        return desk;
    }

    static int[] four(int[] point) {
        int[] four = {77, 77, 77, 77};
        System.arraycopy(point, 0, four, 0, point.length);
        return four;
    }

    void same(String what, long got, long want) {
        made++;
        if (got != want) {
            wrong++;
            System.out.println(what + " answered " + got + ", due is " + want);
        }
    }

    void same(String what, boolean got, boolean want) {
        same(what, got ? 1 : 0, want ? 1 : 0);
    }

    /** Whether a call throws an exception of just this class; null for none at all. */
    void fails(String what, Class<? extends RuntimeException> want, Call call) {
        made++;
        Class<?> got = null;
        try {
            call.run();
        } catch (RuntimeException e) {
            got = e.getClass();
        }
        if (got != want) {
            wrong++;
            System.out.println(what + " threw " + got + ", due is " + want);
        }
    }

    /** All coordinates of all points, and that there are no others. */
    void points(String what, Coordinates got, List<int[]> due, int dimension) {
        for (int which = 0; which < due.size(); which++) {
            for (int i = 0; i < dimension; i++) {
                int there = which;
                int place = i;
                String call = what + "(" + which + ", " + i + ")";
                fails(call, null, () -> same(call, got.at(there, place), due.get(there)[place]));
            }
        }
        for (int which : new int[] {Integer.MIN_VALUE, -1, due.size(), Integer.MAX_VALUE}) {
            fails(what + "(" + which + ", 0)", INDEX, () -> got.at(which, 0));
        }
        for (int i : new int[] {Integer.MIN_VALUE, -1, dimension, Integer.MAX_VALUE}) {
            fails(what + "(0, " + i + ")", INDEX, () -> got.at(0, i));
        }
    }

    int wrong() {
        return wrong;
    }

    void end() {
        System.out.println(made + " checks, " + wrong + " wrong");
        if (wrong != 0 || made == 0) {
            System.exit(1);
        }
    }
}
