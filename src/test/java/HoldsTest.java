import java.math.BigInteger;

/** Promise 13. */
public final class HoldsTest {
    private static final int LOW = Checks.LOW;
    private static final int HIGH = Checks.HIGH;

    private final Checks checks = new Checks();

    public static void main(String[] args) {
        HoldsTest test = new HoldsTest();
        test.productNotBelowZero();
        test.eachRowCounts();
        test.allPointsWithoutRows();
        test.thePointZero();
        test.numbersBeyondTheDimension();
        test.notPointedOrLarge();
        test.greatNumbers();
        test.sumsOfGreatNumbers();
        test.checks.end();
    }

    private void productNotBelowZero() {
        checks.about("whose product with each row is not below 0");
        ConeDesk desk = new Cone(2, new int[][] {{2, -3}}).desk();
        checks.due(true, desk, "holds", 3, 2, 0, 0);
        checks.due(true, desk, "holds", 2, 1, 0, 0);
        checks.due(false, desk, "holds", 1, 1, 0, 0);
        checks.due(true, desk, "holds", -3, -2, 5, -5);
        checks.due(false, desk, "holds", -2, -1, 5, -5);
        ConeDesk other = new Cone(4, new int[][] {{1, 1, 1, 1}}).desk();
        checks.due(true, other, "holds", 1, 1, 1, -2);
        checks.due(true, other, "holds", 1, 1, 1, -3);
        checks.due(false, other, "holds", 1, 1, 1, -4);
    }

    private void eachRowCounts() {
        checks.about("its product with each row");
        for (int dimension = 2; dimension <= 4; dimension++) {
            for (int wrong = 0; wrong < 8; wrong++) {
                ConeDesk desk = new ConeDesk(dimension);
                for (int row = 0; row < 8; row++) {
                    desk.add(1, row == wrong ? -2 : 0, 0, 0);
                }
                checks.due(true, desk, "holds", 2, 1, 0, 0);
                checks.due(false, desk, "holds", 1, 1, 0, 0);
                desk.drop(wrong);
                checks.due(true, desk, "holds", 1, 1, 0, 0);
                checks.due(false, desk, "holds", -1, 1, 0, 0);
            }
        }
    }

    private void allPointsWithoutRows() {
        checks.about("without rows, all points are in the cone");
        for (Cone cone : Cones.EMPTY) {
            for (int value : new int[] {LOW, -1, 0, 1, HIGH}) {
                checks.due(true, cone.desk(), "holds", value, value, value, value);
                checks.due(true, cone.desk(), "holds", value, LOW, HIGH, -value);
            }
        }
    }

    private void thePointZero() {
        checks.about("the point 0 is in every cone");
        for (Cone cone : Cones.all()) {
            checks.due(true, cone.desk(), "holds", 0, 0, 0, 0);
            int beyond = cone.dimension < 4 ? LOW : 0;
            checks.due(true, cone.desk(), "holds", 0, 0, 0, beyond);
        }
        for (Cone zero : Cones.ZERO) {
            for (int i = 0; i < zero.dimension; i++) {
                int[] point = new int[4];
                for (int value : new int[] {LOW, -1, 1, HIGH}) {
                    point[i] = value;
                    checks.due(false, zero.desk(), "holds", point);
                }
            }
        }
    }

    private void numbersBeyondTheDimension() {
        checks.about("of numbers that are given beyond the dimension nothing counts");
        for (int beyond : new int[] {LOW, -1, 0, 1, HIGH}) {
            ConeDesk two = Cones.ORTHANT[0].desk();
            checks.due(true, two, "holds", 1, 0, beyond, beyond);
            checks.due(false, two, "holds", 1, -1, beyond, beyond);
            ConeDesk three = Cones.ORTHANT[1].desk();
            checks.due(true, three, "holds", 1, 0, 0, beyond);
            checks.due(false, three, "holds", 1, 0, -1, beyond);
            // The same where such numbers were given with the rows too.
            ConeDesk given = new ConeDesk(2);
            given.add(1, 0, 5, -5);
            given.add(0, 1, HIGH, LOW);
            checks.due(true, given, "holds", 0, 1, beyond, -beyond);
            checks.due(false, given, "holds", 0, -1, beyond, beyond);
        }
        ConeDesk four = Cones.ORTHANT[2].desk();
        checks.due(false, four, "holds", 1, 1, 1, -1);
        checks.due(false, four, "holds", 1, 1, -1, 1);
    }

    private void notPointedOrLarge() {
        checks.about("whether a point is in the cone, also of a cone that is not pointed, or LARGE");
        for (Cone cone : Cones.all()) {
            Model model = cone.model();
            ConeDesk desk = cone.desk();
            for (int a = -1; a <= 1; a++) {
                for (int b = -2; b <= 2; b++) {
                    for (int c = -1; c <= 1; c++) {
                        for (int d = -2; d <= 2; d++) {
                            checks.due(model.holds(a, b, c, d), desk, "holds", a, b, c, d);
                        }
                    }
                }
            }
            checks.allAsDue("after holds", cone, desk);
        }
    }

    // 2 * 2^30 and 4 * 2^30 do not fit an int, and 5 * HIGH fits it by mistake.
    private void greatNumbers() {
        checks.about("the product of a row and a point, for all ints");
        int[] numbers = {
            LOW, LOW + 1, LOW / 2 - 1, LOW / 2, LOW / 2 + 1, LOW / 4, -858993460, -715827883, -429496730, -65536, -1,
            0, 1, 65536, 429496730, 536870912, 715827883, 858993460, 1 << 30, (1 << 30) + 1, HIGH - 1, HIGH
        };
        for (int dimension = 2; dimension <= 4; dimension++) {
            for (int i = 0; i < dimension; i++) {
                for (int factor = -5; factor <= 5; factor++) {
                    ConeDesk desk = new ConeDesk(dimension);
                    int[] row = {1, 1, 1, 1};
                    row[i] = factor;
                    desk.add(row[0], row[1], row[2], row[3]);
                    for (int number : numbers) {
                        int[] point = new int[4];
                        point[i] = number;
                        checks.due(factor == 0 || number == 0 || factor > 0 == number > 0, desk, "holds", point);
                    }
                }
            }
        }
    }

    private void sumsOfGreatNumbers() {
        checks.about("the product is the sum of the products of their coordinates, for all ints");
        int[] numbers = {LOW, LOW + 1, -(1 << 30), -1, 0, 1, 1 << 30, HIGH - 1, HIGH};
        int[][] rows = {{5, 5, 5, 5}, {-5, -5, -5, -5}, {1, 1, 1, 1}, {5, -5, 5, -5}, {1, -1, 2, -2}, {4, 4, -3, -5}};
        for (int[] row : rows) {
            for (int k = 0; k < 6561; k++) {
                int[] point = {numbers[k % 9], numbers[k / 9 % 9], numbers[k / 81 % 9], numbers[k / 729]};
                for (int dimension = 2; dimension <= 4; dimension++) {
                    if (k % 3 == dimension - 2) {
                        ConeDesk desk = new ConeDesk(dimension);
                        desk.add(row[0], row[1], row[2], row[3]);
                        checks.due(product(row, point, dimension).signum() >= 0, desk, "holds", point);
                    }
                }
            }
        }
    }

    private static BigInteger product(int[] row, int[] point, int dimension) {
        BigInteger sum = BigInteger.ZERO;
        for (int i = 0; i < dimension; i++) {
            sum = sum.add(BigInteger.valueOf(row[i]).multiply(BigInteger.valueOf(point[i])));
        }
        return sum;
    }
}
