/** Promise 15. */
public final class LeastTest {
    private static final int LOW = Checks.LOW;
    private static final int HIGH = Checks.HIGH;

    private final Checks checks = new Checks();

    public static void main(String[] args) {
        LeastTest test = new LeastTest();
        test.leastProduct();
        test.emptyBasis();
        test.coordinatesWithinReach();
        test.coordinatesOutOfReach();
        test.numbersBeyondTheDimension();
        test.notPointed();
        test.large();
        test.wrongPointComesFirst();
        test.longPoints();
        test.checks.end();
    }

    private void leastProduct() {
        checks.about("the least product that a point of the cone's BASIS has with a point");
        ConeDesk desk = new Cone(3, new int[][] {{-1, 1, 1}, {1, -1, 1}, {1, 1, -1}}).desk();
        checks.due(2, desk, "least", 1, 1, 1, HIGH);
        checks.due(-3, desk, "least", -1, -1, -1, LOW);
        checks.due(7, desk, "least", 3, 4, 5, 0);
        checks.due(0, desk, "least", 0, 0, 0, 5);
        checks.due(-9, desk, "least", 5, -4, -5, 0);
        // The points are (-1, 3), (0, 1), (1, 1) and (2, 1); then there is a single one; then four.
        ConeDesk plane = new Cone(2, new int[][] {{3, 1}, {-1, 2}}).desk();
        checks.due(-7, plane, "least", 7, 0, 0, 0);
        checks.due(-14, plane, "least", -7, 0, 0, 0);
        checks.due(-3, plane, "least", 0, -1, 0, 0);
        checks.due(1, plane, "least", 0, 1, 0, 0);
        checks.due(6, Cones.HALF_LINE[0].desk(), "least", 5, -1, 0, 0);
        checks.due(-6, Cones.HALF_LINE[0].desk(), "least", -5, 1, 0, 0);
        checks.due(3, Cones.ORTHANT[2].desk(), "least", 6, 5, 4, 3);
        checks.due(3, Cones.ORTHANT[2].desk(), "least", 3, 4, 5, 6);
    }

    private void emptyBasis() {
        checks.about("0 if it has none");
        for (Cone cone : Cones.ZERO) {
            for (int value : new int[] {-1000, -1, 0, 1, 1000}) {
                checks.due(0, cone.desk(), "least", value, value, value, value);
                checks.due(0, cone.desk(), "least", value, -value, 1000, -1000);
            }
        }
    }

    private void coordinatesWithinReach() {
        checks.about("a coordinate that counts is -1000 .. 1000");
        for (int k = 0; k < 3; k++) {
            for (int i = 0; i < k + 2; i++) {
                for (int value : new int[] {999, 1000}) {
                    int[] point = new int[4];
                    point[i] = -value;
                    checks.due(-value, Cones.ORTHANT[k].desk(), "least", point);
                    checks.due(0, Cones.NEGATIVE_ORTHANT[k].desk(), "least", point);
                    point[i] = value;
                    checks.due(0, Cones.ORTHANT[k].desk(), "least", point);
                    checks.due(-value, Cones.NEGATIVE_ORTHANT[k].desk(), "least", point);
                }
            }
            checks.due(1000, Cones.ORTHANT[k].desk(), "least", 1000, 1000, 1000, 1000);
            checks.due(-1000, Cones.ORTHANT[k].desk(), "least", -1000, -1000, -1000, -1000);
            checks.due(1000, Cones.NEGATIVE_ORTHANT[k].desk(), "least", -1000, -1000, -1000, -1000);
        }
    }

    private void coordinatesOutOfReach() {
        checks.about("IllegalArgumentException: a coordinate that counts is not -1000 .. 1000");
        for (Cone cone : Cones.small()) {
            for (int i = 0; i < cone.dimension; i++) {
                for (int value : Checks.outside(-1000, 1000)) {
                    int[] point = {1, 0, -1, 1000};
                    point[i] = value;
                    checks.refused(Checks.ARGUMENT, cone, "least", point);
                }
            }
            for (int value : new int[] {LOW, LOW + 1, -1001, 1001, HIGH - 1, HIGH}) {
                checks.refused(Checks.ARGUMENT, cone, "least", value, value, value, value);
            }
        }
    }

    private void numbersBeyondTheDimension() {
        checks.about("of numbers that are given beyond the dimension nothing counts");
        for (int beyond : new int[] {LOW, -1001, -1000, -1, 0, 1, 1000, 1001, HIGH}) {
            checks.due(-1000, Cones.ORTHANT[0].desk(), "least", -1000, 1000, beyond, beyond);
            checks.due(2, Cones.ORTHANT[0].desk(), "least", 2, 3, beyond, 0);
            checks.due(2, Cones.ORTHANT[1].desk(), "least", 4, 3, 2, beyond);
            checks.due(-4, Cones.NEGATIVE_ORTHANT[1].desk(), "least", 4, 3, 2, beyond);
            checks.due(0, Cones.ZERO[0].desk(), "least", 4, 3, beyond, beyond);
        }
    }

    private void notPointed() {
        checks.about("IllegalStateException: not pointed");
        for (Cone cone : Cones.notPointed()) {
            isRefusedWithinReach(cone);
        }
    }

    private void large() {
        checks.about("IllegalStateException: LARGE");
        for (Cone cone : Cones.large()) {
            isRefusedWithinReach(cone);
        }
    }

    private void isRefusedWithinReach(Cone cone) {
        for (int value : new int[] {-1000, -999, -1, 0, 1, 999, 1000}) {
            checks.refused(Checks.STATE, cone, "least", value, value, value, value);
            checks.refused(Checks.STATE, cone, "least", 0, value, 0, -value);
        }
        if (cone.dimension < 4) {
            checks.refused(Checks.STATE, cone, "least", 0, 0, 0, 1001);
        }
    }

    private void wrongPointComesFirst() {
        checks.about("IllegalArgumentException; else IllegalStateException: not pointed, or LARGE");
        for (Cone[] group : new Cone[][] {
            Cones.EMPTY, Cones.ONE_LINE, Cones.FULL_WITH_A_LINE, Cones.MANY_RAYS, Cones.INDEX_THIRTEEN
        }) {
            for (Cone cone : group) {
                for (int i = 0; i < 4; i++) {
                    for (int value : Checks.outside(-1000, 1000)) {
                        int[] point = new int[4];
                        point[i] = value;
                        Class<? extends RuntimeException> due = i < cone.dimension ? Checks.ARGUMENT : Checks.STATE;
                        checks.refused(due, cone, "least", point);
                    }
                }
            }
        }
    }

    // (-495, -455, -36, 95) with the farthest point.
    private void longPoints() {
        checks.about("the least product, as far from 0 as can be");
        ConeDesk desk = Cones.HALF_LINE[2].desk();
        checks.due(-1081000, desk, "least", 1000, 1000, 1000, -1000);
        checks.due(1081000, desk, "least", -1000, -1000, -1000, 1000);
        ConeDesk other = Cones.LONG_POINTS.desk();
        checks.due(-668000, other, "least", 1000, 1000, -1000, 1000);
        checks.due(44000, other, "least", -1000, -1000, 1000, -1000);
    }
}
