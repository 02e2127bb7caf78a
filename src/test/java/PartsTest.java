/** Promise 14. */
public final class PartsTest {
    private static final int LOW = Checks.LOW;
    private static final int HIGH = Checks.HIGH;

    private final Checks checks = new Checks();

    public static void main(String[] args) {
        PartsTest test = new PartsTest();
        test.howManyParts();
        test.greatestFirst();
        test.pointsOfTheBasis();
        test.thePointZero();
        test.notInTheCone();
        test.coordinatesWithinReach();
        test.coordinatesOutOfReach();
        test.outOfReachAndNotInTheCone();
        test.numbersBeyondTheDimension();
        test.notPointed();
        test.large();
        test.changesNothing();
        test.checks.end();
    }

    private void howManyParts() {
        checks.about("of how many points of BASIS a point is the sum");
        ConeDesk desk = Cones.ORTHANT[2].desk();
        checks.due(10, desk, "parts", 1, 2, 3, 4);
        checks.due(1, desk, "parts", 0, 0, 1, 0);
        checks.due(2, desk, "parts", 0, 0, 1, 1);
        ConeDesk flat = Cones.FLAT[1].desk();
        checks.due(7, flat, "parts", 7, 3, 0, 7);
        checks.due(-1, flat, "parts", 7, 3, 0, 6);
        // (3, 5), (2, 3), (1, 1) and (1, 0).
        checks.due(4, new Cone(2, new int[][] {{0, 1}, {5, -3}}).desk(), "parts", 7, 9, 0, 0);
    }

    private void greatestFirst() {
        checks.about("the greatest one by which it may be made less is taken away again and again");
        // The half sum (1, 1, 1) is greater than the rays, its negative less than theirs: so it
        // is taken twice here, and three rays are taken there.
        ConeDesk up = new Cone(3, new int[][] {{-1, 1, 1}, {1, -1, 1}, {1, 1, -1}}).desk();
        checks.due(2, up, "parts", 2, 2, 2, 0);
        checks.due(3, up, "parts", 3, 3, 2, 0);
        ConeDesk down = new Cone(3, new int[][] {{1, -1, -1}, {-1, 1, -1}, {-1, -1, 1}}).desk();
        checks.due(1, down, "parts", -1, -1, -1, 0);
        checks.due(3, down, "parts", -2, -2, -2, 0);
        checks.due(4, down, "parts", -3, -3, -3, 0);
        // (3, 4) is (2, 3) and (1, 1), and (6, 7) is (3, 5), (1, 1) twice and (1, 0).
        ConeDesk plane = new Cone(2, new int[][] {{0, 1}, {5, -3}}).desk();
        checks.due(2, plane, "parts", 3, 4, 0, 0);
        checks.due(4, plane, "parts", 6, 7, 0, 0);
        checks.due(2, plane, "parts", 6, 10, 0, 0);
    }

    private void pointsOfTheBasis() {
        checks.about("a point of BASIS is the sum of one");
        for (Cone cone : Cones.small()) {
            ConeDesk desk = cone.desk();
            int count = desk.basis();
            for (int point = 0; point < count; point++) {
                int[] four = new int[4];
                boolean within = true;
                for (int i = 0; i < cone.dimension; i++) {
                    four[i] = desk.point(point, i);
                    within = within && Math.abs(four[i]) <= 100;
                }
                checks.due(within ? 1 : -1, desk, "parts", four);
            }
        }
    }

    private void thePointZero() {
        checks.about("0 for the point 0");
        for (Cone cone : Cones.small()) {
            checks.due(0, cone.desk(), "parts", 0, 0, 0, 0);
        }
        for (int beyond : new int[] {LOW, -101, -1, 1, 101, HIGH}) {
            checks.due(0, Cones.ORTHANT[0].desk(), "parts", 0, 0, beyond, beyond);
            checks.due(0, Cones.ZERO[0].desk(), "parts", 0, 0, beyond, beyond);
            checks.due(0, Cones.ZERO[1].desk(), "parts", 0, 0, 0, beyond);
        }
    }

    private void notInTheCone() {
        checks.about("-1 if the point is not in the cone");
        for (Cone zero : Cones.ZERO) {
            for (int i = 0; i < zero.dimension; i++) {
                for (int value : new int[] {-100, -1, 1, 100}) {
                    int[] point = new int[4];
                    point[i] = value;
                    checks.due(-1, zero.desk(), "parts", point);
                }
            }
        }
        for (Cone cone : Cones.ORTHANT) {
            for (int i = 0; i < cone.dimension; i++) {
                int[] point = {3, 3, 3, 3};
                point[i] = 0;
                checks.due(3 * (cone.dimension - 1), cone.desk(), "parts", point);
                point[i] = -1;
                checks.due(-1, cone.desk(), "parts", point);
            }
        }
        // Next to the side through (3, 5): (3, 5) and (6, 10) are on it, (6, 11) is beyond it.
        ConeDesk plane = new Cone(2, new int[][] {{0, 1}, {5, -3}}).desk();
        checks.due(1, plane, "parts", 3, 5, 0, 0);
        checks.due(-1, plane, "parts", 3, 6, 0, 0);
        checks.due(-1, plane, "parts", 1, 2, 0, 0);
        checks.due(-1, plane, "parts", 6, 11, 0, 0);
        checks.due(-1, plane, "parts", 1, -1, 0, 0);
        checks.due(-1, plane, "parts", -3, -5, 0, 0);
    }

    private void coordinatesWithinReach() {
        checks.about("a coordinate that counts is -100 .. 100");
        for (int k = 0; k < 3; k++) {
            int dimension = k + 2;
            checks.due(dimension * 100, Cones.ORTHANT[k].desk(), "parts", 100, 100, 100, 100);
            checks.due(dimension * 100, Cones.NEGATIVE_ORTHANT[k].desk(), "parts", -100, -100, -100, -100);
            checks.due(dimension * 99, Cones.ORTHANT[k].desk(), "parts", 99, 99, 99, 99);
            checks.due(dimension * 99, Cones.NEGATIVE_ORTHANT[k].desk(), "parts", -99, -99, -99, -99);
            for (int i = 0; i < dimension; i++) {
                for (int value = 98; value <= 100; value++) {
                    int[] point = new int[4];
                    point[i] = value;
                    checks.due(value, Cones.ORTHANT[k].desk(), "parts", point);
                    point[i] = -value;
                    checks.due(value, Cones.NEGATIVE_ORTHANT[k].desk(), "parts", point);
                }
            }
        }
        // Only one point of BASIS fits: 100 is twenty times 5.
        checks.due(20, new Cone(2, new int[][] {{1, 5}, {-1, -5}, {1, 0}}).desk(), "parts", 100, -20, 0, 0);
    }

    private void coordinatesOutOfReach() {
        checks.about("-1 if a coordinate that counts is not -100 .. 100");
        for (int k = 0; k < 3; k++) {
            for (int i = 0; i < k + 2; i++) {
                for (int others : new int[] {0, 1, 100}) {
                    for (int value : new int[] {101, 102, 1000, HIGH - 1, HIGH}) {
                        int[] point = {others, others, others, others};
                        point[i] = value;
                        checks.due(true, Cones.ORTHANT[k].desk(), "holds", point);
                        checks.due(-1, Cones.ORTHANT[k].desk(), "parts", point);
                    }
                    for (int value : new int[] {-101, -102, -1000, LOW + 1, LOW}) {
                        int[] point = {-others, -others, -others, -others};
                        point[i] = value;
                        checks.due(true, Cones.NEGATIVE_ORTHANT[k].desk(), "holds", point);
                        checks.due(-1, Cones.NEGATIVE_ORTHANT[k].desk(), "parts", point);
                    }
                }
            }
        }
        // A point of BASIS itself may lie there.
        checks.due(-1, Cones.HALF_LINE[2].desk(), "parts", -495, -455, -36, 95);
        checks.due(1, Cones.LONG_POINTS.desk(), "parts", -11, -4, 49, -91);
        checks.due(-1, Cones.LONG_POINTS.desk(), "parts", -15, -5, 67, -125);
    }

    private void outOfReachAndNotInTheCone() {
        checks.about("-1 if both: not in the cone, and a coordinate that is not -100 .. 100");
        for (Cone cone : Cones.ORTHANT) {
            for (int i = 0; i < cone.dimension; i++) {
                for (int value : new int[] {LOW, -101, -100}) {
                    int[] point = {1, 1, 1, 1};
                    point[i] = value;
                    checks.due(-1, cone.desk(), "parts", point);
                }
            }
            checks.due(-1, cone.desk(), "parts", LOW, HIGH, LOW, HIGH);
        }
    }

    private void numbersBeyondTheDimension() {
        checks.about("of numbers that are given beyond the dimension nothing counts");
        for (int beyond : new int[] {LOW, -101, -100, -1, 0, 1, 100, 101, HIGH}) {
            checks.due(200, Cones.ORTHANT[0].desk(), "parts", 100, 100, beyond, beyond);
            checks.due(200, Cones.NEGATIVE_ORTHANT[0].desk(), "parts", -100, -100, beyond, 0);
            checks.due(3, Cones.ORTHANT[0].desk(), "parts", 1, 2, 0, beyond);
            checks.due(6, Cones.ORTHANT[1].desk(), "parts", 1, 2, 3, beyond);
            checks.due(-1, Cones.ORTHANT[1].desk(), "parts", 1, 2, -1, beyond);
        }
    }

    private void notPointed() {
        checks.about("IllegalStateException: not pointed");
        for (Cone cone : Cones.notPointed()) {
            isRefusedWhateverIsAsked(cone);
        }
    }

    private void large() {
        checks.about("IllegalStateException: LARGE");
        for (Cone cone : Cones.large()) {
            isRefusedWhateverIsAsked(cone);
        }
    }

    // Points within, without, and out of reach: which of them the cone holds does not matter.
    private void isRefusedWhateverIsAsked(Cone cone) {
        for (int value : new int[] {LOW, -101, -100, -1, 0, 1, 100, 101, HIGH}) {
            checks.refused(Checks.STATE, cone, "parts", value, value, value, value);
            checks.refused(Checks.STATE, cone, "parts", 0, value, 0, -value);
        }
        checks.refused(Checks.STATE, cone, "parts", 1, 0, 0, 0);
        checks.refused(Checks.STATE, cone, "parts", 0, 0, 1, 1);
    }

    private void changesNothing() {
        checks.about("parts only answers");
        for (Cone cone : Cones.small()) {
            ConeDesk desk = cone.desk();
            int[] sum = new int[4];
            for (int ray = 0; ray < desk.rays(); ray++) {
                for (int i = 0; i < cone.dimension; i++) {
                    sum[i] += desk.ray(ray, i);
                }
            }
            int due = cone.model().parts(sum[0], sum[1], sum[2], sum[3]);
            for (int turn = 0; turn < 3; turn++) {
                checks.due(due, desk, "parts", sum);
                checks.due(-1, desk, "parts", HIGH, LOW, HIGH, LOW);
            }
            checks.allAsDue("after parts", cone, desk);
        }
    }
}
