import java.util.ArrayList;
import java.util.Arrays;
import java.util.List;
import java.util.Random;

/** Every answer of ConeDesk over many cones, against the Oracle; the same cones in every run. */
public final class OracleTest {
    private final Checks checks = new Checks();
    private final Random random = new Random(20261115);
    private int cones;
    private int based;
    private int flat;
    private int boxed;

    public static void main(String[] args) {
        OracleTest test = new OracleTest();
        int factor = args.length > 0 ? Integer.parseInt(args[0]) : 1;
        for (int dimension = 2; dimension <= 4; dimension++) {
            for (int reach = 1; reach <= 5; reach++) {
                for (int cone = 0; cone < 60 * factor; cone++) {
                    int rows = dimension + test.random.nextInt(9 - dimension);
                    test.tryCone(dimension, reach, rows, test.random.nextInt(4) != 0);
                }
            }
        }
        // Many small rows: cones that have many rays and yet are seldom LARGE.
        for (int cone = 0; cone < 1000 * factor; cone++) {
            test.tryCone(4, 1 + cone % 2, 6 + cone % 3, true);
        }
        for (int run = 0; run < 40 * factor; run++) {
            test.tryRun(2 + run % 3);
        }
        System.out.println(test.cones + " cones, " + test.based + " with a basis, " + test.flat
                + " of a lesser size, " + test.boxed + " looked at in a box");
        test.checks.end();
    }

    private void tryCone(int dimension, int reach, int count, boolean open) {
        List<int[]> rows = new ArrayList<>();
        int[] inner = randomPoint(dimension, 3);
        while (rows.size() < count) {
            int[] row = randomRow(rows, dimension, reach);
            // Rows that hold one inner point leave a cone of full size; others mostly do not.
            if (open && Oracle.product(row, inner) < 0) {
                row = negative(row);
            }
            rows.add(row);
        }
        compare(Checks.desk(dimension, rows.toArray(new int[0][])), dimension, rows);
        compareInBox(dimension, rows, reach);
    }

    // One object that changes again and again: what it kept of an earlier cone must not show.
    private void tryRun(int dimension) {
        ConeDesk desk = new ConeDesk(dimension);
        List<int[]> rows = new ArrayList<>();
        for (int change = 0; change < 24; change++) {
            if (rows.size() == 8 || rows.size() > dimension && random.nextInt(3) == 0) {
                int which = random.nextInt(rows.size());
                desk.drop(which);
                rows.remove(which);
            } else {
                int[] row = randomRow(rows, dimension, 2);
                int[] four = Checks.four(row);
                checks.same("add", desk.add(four[0], four[1], four[2], four[3]), rows.size());
                rows.add(row);
            }
            compare(desk, dimension, rows);
        }
    }

    private int[] randomRow(List<int[]> rows, int dimension, int reach) {
        if (!rows.isEmpty() && random.nextInt(10) == 0) {
            int[] old = rows.get(random.nextInt(rows.size()));
            return random.nextInt(4) == 0 ? old.clone() : negative(old);
        }
        int[] row = randomPoint(dimension, reach);
        while (Arrays.equals(row, new int[dimension])) {
            row = randomPoint(dimension, reach);
        }
        return row;
    }

    private int[] randomPoint(int dimension, int reach) {
        int[] point = new int[dimension];
        for (int i = 0; i < dimension; i++) {
            point[i] = random.nextInt(2 * reach + 1) - reach;
        }
        return point;
    }

    private static int[] negative(int[] point) {
        int[] other = new int[point.length];
        for (int i = 0; i < point.length; i++) {
            other[i] = -point[i];
        }
        return other;
    }

    private void compare(ConeDesk desk, int dimension, List<int[]> rows) {
        Oracle due = new Oracle(dimension, rows.toArray(new int[0][]));
        cones++;
        int before = checks.wrong();
        checks.same("look(0)", desk.look(0), dimension);
        checks.same("look(1)", desk.look(1), rows.size());
        checks.same("look(2)", desk.look(2), due.rank);
        checks.same("look(3)", desk.look(3), dimension - due.rank);
        checks.points("row", desk::row, rows, dimension);
        for (int turn = 0; turn < 4; turn++) {
            int[] point = randomPoint(dimension, 6);
            int[] four = Checks.four(point);
            checks.same("holds", desk.holds(four[0], four[1], four[2], four[3]), due.holds(point));
        }
        // Asked in another order at times, so that each question is also the first one.
        if (random.nextBoolean()) {
            compareBasis(desk, due);
            compareFaces(desk, due);
        } else {
            compareFaces(desk, due);
            compareBasis(desk, due);
        }
        if (checks.wrong() != before) {
            System.out.println("  in the cone of " + Arrays.deepToString(due.rows));
        }
    }

    private void compareFaces(ConeDesk desk, Oracle due) {
        if (!due.pointed) {
            checks.fails("rays()", Checks.STATE, desk::rays);
            checks.fails("ray(-1, 0)", Checks.STATE, () -> desk.ray(-1, 0));
            checks.fails("size()", Checks.STATE, desk::size);
            checks.fails("bounds(-1)", Checks.STATE, () -> desk.bounds(-1));
            checks.fails("faces(-1)", Checks.STATE, () -> desk.faces(-1));
            return;
        }
        flat += due.size < due.dimension ? 1 : 0;
        checks.same("size()", desk.size(), due.size);
        checks.same("rays()", desk.rays(), due.rays.size());
        checks.points("ray", desk::ray, due.rays, due.dimension);
        for (int row = 0; row < due.rows.length; row++) {
            checks.same("bounds(" + row + ")", desk.bounds(row), due.bounds(row));
        }
        checks.fails("bounds(-1)", Checks.INDEX, () -> desk.bounds(-1));
        checks.fails("bounds(rows)", Checks.INDEX, () -> desk.bounds(due.rows.length));
        for (int ofDimension = -1; ofDimension <= 5; ofDimension++) {
            checks.same("faces(" + ofDimension + ")", desk.faces(ofDimension), due.faces(ofDimension));
        }
    }

    private void compareBasis(ConeDesk desk, Oracle due) {
        if (!due.pointed || due.large) {
            if (due.pointed) {
                checks.same("basis()", desk.basis(), -1);
            } else {
                checks.fails("basis()", Checks.STATE, desk::basis);
            }
            checks.fails("point(-1, 0)", Checks.STATE, () -> desk.point(-1, 0));
            checks.fails("parts(0, 0, 0, 0)", Checks.STATE, () -> desk.parts(0, 0, 0, 0));
            checks.fails("least(0, 0, 0, 0)", Checks.STATE, () -> desk.least(0, 0, 0, 0));
            return;
        }
        based++;
        checks.same("basis()", desk.basis(), due.basis.size());
        checks.points("point", desk::point, due.basis, due.dimension);
        for (int turn = 0; turn < 6; turn++) {
            int[] point = turn < 2 ? randomPoint(due.dimension, 102) : randomSum(due);
            int[] four = Checks.four(point);
            checks.same("parts" + Arrays.toString(point),
                    desk.parts(four[0], four[1], four[2], four[3]), due.parts(point));
            int[] with = randomPoint(due.dimension, 1000);
            four = Checks.four(with);
            checks.same("least" + Arrays.toString(with),
                    desk.least(four[0], four[1], four[2], four[3]), due.least(with));
        }
    }

    private int[] randomSum(Oracle due) {
        int[] sum = new int[due.dimension];
        int summands = due.basis.isEmpty() ? 0 : random.nextInt(9);
        for (int s = 0; s < summands; s++) {
            int[] part = due.basis.get(random.nextInt(due.basis.size()));
            int times = 1 + random.nextInt(4);
            for (int i = 0; i < sum.length; i++) {
                sum[i] += times * part[i];
            }
        }
        return sum;
    }

    // The oracle itself, against the definitions tried on every point of a box.
    private void compareInBox(int dimension, List<int[]> rows, int reach) {
        Oracle due = new Oracle(dimension, rows.toArray(new int[0][]));
        if (!due.pointed) {
            return;
        }
        int rayReach = dimension == 2 ? reach : dimension == 3 ? 2 * reach * reach : 4 * reach * reach * reach;
        if (Math.pow(2 * rayReach + 1, dimension) < 20000) {
            checks.same("the oracle's rays", Oracle.same(due.rays, due.raysWithin(rayReach)), true);
        }
        if (!due.large && due.boxVolume() < 40000) {
            boxed++;
            checks.same("the oracle's basis", Oracle.same(due.basis, due.basisInBox()), true);
        }
    }
}
