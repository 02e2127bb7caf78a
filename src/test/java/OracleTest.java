import java.util.ArrayList;
import java.util.Arrays;
import java.util.Collections;
import java.util.List;
import java.util.Random;

/** Every answer of ConeDesk over many cones, against the Oracle; the same cones in every run. */
public final class OracleTest {
    private final Checks checks = new Checks();
    private final Random random = new Random(20261115);
    private int cones;
    private int based;
    private int flat;
    private int boxed;

    public static void main(String[] args) {
        OracleTest test = new OracleTest();
        test.checks.about("what the document says");
        int factor = args.length > 0 ? Integer.parseInt(args[0]) : 1;
        for (int dimension = 2; dimension <= 4; dimension++) {
            for (int reach = 1; reach <= 5; reach++) {
                for (int cone = 0; cone < 80 * factor; cone++) {
                    int rows = dimension + test.random.nextInt(9 - dimension);
                    test.tryCone(dimension, reach, rows, test.random.nextInt(4) != 0);
                }
            }
        }
        // Many small rows: cones that have many rays and yet are seldom LARGE.
        for (int cone = 0; cone < 1200 * factor; cone++) {
            test.tryCone(4, 1 + cone % 2, 6 + cone % 3, true);
        }
        System.out.println(test.cones + " cones, " + test.based + " with a basis, " + test.flat
                + " of a lesser size, " + test.boxed + " looked at in a box");
        test.checks.end();
    }

    private void tryCone(int dimension, int reach, int count, boolean open) {
        List<int[]> rows = new ArrayList<>();
        int[] inner = randomPoint(dimension, 3);
        while (rows.size() < count) {
            int[] row = randomRow(rows, dimension, reach);
            // Rows that hold one inner point leave a cone of full size; others mostly do not.
            if (open && Oracle.product(row, inner) < 0) {
                row = negative(row);
            }
            rows.add(row);
        }
        Cone cone = new Cone(dimension, rows.toArray(new int[0][]));
        compare(cone);
        compareInBox(cone.oracle(), reach);
    }

    private int[] randomRow(List<int[]> rows, int dimension, int reach) {
        if (!rows.isEmpty() && random.nextInt(10) == 0) {
            int[] old = rows.get(random.nextInt(rows.size()));
            return random.nextInt(4) == 0 ? old.clone() : negative(old);
        }
        int[] row = randomPoint(dimension, reach);
        while (Arrays.equals(row, new int[dimension])) {
            row = randomPoint(dimension, reach);
        }
        return row;
    }

    private int[] randomPoint(int dimension, int reach) {
        int[] point = new int[dimension];
        for (int i = 0; i < dimension; i++) {
            point[i] = random.nextInt(2 * reach + 1) - reach;
        }
        return point;
    }

    private static int[] negative(int[] point) {
        int[] other = new int[point.length];
        for (int i = 0; i < point.length; i++) {
            other[i] = -point[i];
        }
        return other;
    }

    // Asked in any order, so that each question is also the first one at times.
    private void compare(Cone cone) {
        Oracle due = cone.oracle();
        cones++;
        based += due.pointed && !due.large ? 1 : 0;
        flat += due.pointed && due.size < due.dimension ? 1 : 0;
        List<Cone.Question> questions = new ArrayList<>(cone.questions());
        for (int turn = 0; turn < 6; turn++) {
            int[] point = turn < 2 ? randomPoint(cone.dimension, 102) : randomSum(due);
            questions.add(cone.question(new Call("holds", Cone.four(point))));
            questions.add(cone.question(new Call("parts", Cone.four(point))));
            questions.add(cone.question(new Call("least", Cone.four(randomPoint(cone.dimension, 1000)))));
        }
        Collections.shuffle(questions, random);
        checks.allAsDue("among " + questions.size(), cone, cone.desk(), questions);
    }

    private int[] randomSum(Oracle due) {
        int[] sum = new int[due.dimension];
        int summands = due.basis.isEmpty() ? 0 : random.nextInt(9);
        for (int s = 0; s < summands; s++) {
            int[] part = due.basis.get(random.nextInt(due.basis.size()));
            int times = 1 + random.nextInt(4);
            for (int i = 0; i < sum.length; i++) {
                sum[i] += times * part[i];
            }
        }
        return sum;
    }

    // The oracle itself, against the definitions tried on every point of a box.
    private void compareInBox(Oracle due, int reach) {
        if (!due.pointed) {
            return;
        }
        int rayReach = due.dimension == 2 ? reach : due.dimension == 3 ? 2 * reach * reach : 4 * reach * reach * reach;
        if (Math.pow(2 * rayReach + 1, due.dimension) < 20000) {
            checks.same("the oracle's rays", Oracle.same(due.rays, due.raysWithin(rayReach)), true);
        }
        if (!due.large && due.boxVolume() < 40000) {
            boxed++;
            checks.same("the oracle's basis", Oracle.same(due.basis, due.basisInBox()), true);
        }
    }
}
