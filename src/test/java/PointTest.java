/** Promise 12. */
public final class PointTest {
    private final Checks checks = new Checks();

    public static void main(String[] args) {
        PointTest test = new PointTest();
        test.pointsOfTheBasis();
        test.inTheirOrder();
        test.noSumsOfTwoOthers();
        test.notPointedComesFirst();
        test.largeComesFirst();
        test.noSuchPoint();
        test.noSuchCoordinate();
        test.neither();
        test.checks.end();
    }

    private void basisIs(Cone cone, int[]... due) {
        ConeDesk desk = cone.desk();
        checks.due(due.length, desk, "basis");
        for (int point = 0; point < due.length; point++) {
            for (int i = 0; i < cone.dimension; i++) {
                checks.due(due[point][i], desk, "point", point, i);
            }
        }
    }

    private void pointsOfTheBasis() {
        checks.about("coordinate i of a point of BASIS");
        basisIs(new Cone(3, new int[][] {{-1, 1, 1}, {1, -1, 1}, {1, 1, -1}}),
                new int[][] {{0, 1, 1}, {1, 0, 1}, {1, 1, 0}, {1, 1, 1}});
        basisIs(Cones.FLAT[1], new int[][] {{1, 0, 0, 1}, {1, 1, 0, 1}, {1, 2, 0, 1}});
        basisIs(Cones.HALF_LINE[2], new int[] {-495, -455, -36, 95});
        basisIs(Cones.LONG_POINTS, new int[][] {
            {-47, -16, 211, -394}, {-35, -12, 157, -293}, {-23, -8, 103, -192},
            {-15, -5, 67, -125}, {-11, -4, 49, -91}, {-3, -1, 14, -26}
        });
    }

    private void inTheirOrder() {
        checks.about("numbered in their order");
        basisIs(new Cone(2, new int[][] {{3, 1}, {-1, 2}}), new int[][] {{-1, 3}, {0, 1}, {1, 1}, {2, 1}});
        basisIs(new Cone(2, new int[][] {{-1, 2}, {3, 1}}), new int[][] {{-1, 3}, {0, 1}, {1, 1}, {2, 1}});
        basisIs(Cones.NEGATIVE_ORTHANT[2], new int[][] {{-1, 0, 0, 0}, {0, -1, 0, 0}, {0, 0, -1, 0}, {0, 0, 0, -1}});
        basisIs(Cones.CUBE, new int[][] {
            {0, 0, 0, 1}, {0, 0, 1, 1}, {0, 1, 0, 1}, {0, 1, 1, 1},
            {1, 0, 0, 1}, {1, 0, 1, 1}, {1, 1, 0, 1}, {1, 1, 1, 1}
        });
        basisIs(Cones.OCTAGON, new int[][] {
            {0, 1, 1}, {0, 2, 1}, {1, 0, 1}, {1, 1, 1}, {1, 2, 1}, {1, 3, 1},
            {2, 0, 1}, {2, 1, 1}, {2, 2, 1}, {2, 3, 1}, {3, 1, 1}, {3, 2, 1}
        });
    }

    private void noSumsOfTwoOthers() {
        checks.about("no sums of two whole points of the cone that are not 0");
        // Between the rays (3, -2) and (3, 2) of INDEX 12, eleven points are less than the rays' sum.
        basisIs(new Cone(2, new int[][] {{2, 3}, {2, -3}}), new int[][] {{1, 0}, {2, -1}, {2, 1}, {3, -2}, {3, 2}});
        basisIs(new Cone(2, new int[][] {{0, 1}, {5, -3}}), new int[][] {{1, 0}, {1, 1}, {2, 3}, {3, 5}});
        basisIs(new Cone(2, new int[][] {{-1, 5}, {1, 5}}), new int[][] {
            {-5, 1}, {-4, 1}, {-3, 1}, {-2, 1}, {-1, 1}, {0, 1}, {1, 1}, {2, 1}, {3, 1}, {4, 1}, {5, 1}
        });
        for (Cone cone : Cones.small()) {
            isNoSum(cone);
        }
    }

    private void isNoSum(Cone cone) {
        ConeDesk desk = cone.desk();
        int count = desk.basis();
        for (int p = 0; p < count; p++) {
            for (int q = 0; q < count; q++) {
                int[] difference = new int[4];
                for (int i = 0; i < cone.dimension; i++) {
                    difference[i] = desk.point(p, i) - desk.point(q, i);
                }
                checks.due(p == q, cone.desk(), "holds", difference);
            }
        }
    }

    private void notPointedComesFirst() {
        checks.about("IllegalStateException: not pointed; else IndexOutOfBoundsException");
        for (Cone cone : Cones.notPointed()) {
            isRefusedWhateverIsAsked(cone);
        }
    }

    private void largeComesFirst() {
        checks.about("IllegalStateException: LARGE; else IndexOutOfBoundsException");
        for (Cone cone : Cones.large()) {
            isRefusedWhateverIsAsked(cone);
        }
    }

    private void isRefusedWhateverIsAsked(Cone cone) {
        for (int number : new int[] {Checks.LOW, -1, 0, 1, 8, 13, Checks.HIGH}) {
            checks.refused(Checks.STATE, cone, "point", number, 0);
            checks.refused(Checks.STATE, cone, "point", 0, number);
            checks.refused(Checks.STATE, cone, "point", number, number);
        }
    }

    private void noSuchPoint() {
        checks.about("IndexOutOfBoundsException: there is no such point");
        for (Cone cone : Cones.small()) {
            int count = cone.desk().basis();
            for (int point : Checks.outside(0, count - 1)) {
                checks.refused(Checks.INDEX, cone, "point", point, 0);
                checks.refused(Checks.INDEX, cone, "point", point, cone.dimension - 1);
            }
        }
    }

    private void noSuchCoordinate() {
        checks.about("IndexOutOfBoundsException: there is no such coordinate");
        for (Cone cone : Cones.small()) {
            for (int i : Checks.outside(0, cone.dimension - 1)) {
                checks.refused(Checks.INDEX, cone, "point", 0, i);
            }
            int count = cone.desk().basis();
            for (int point = 0; point < count; point++) {
                for (int i = -4; i <= 8; i++) {
                    if (i < 0 || i >= cone.dimension) {
                        checks.throwsJust(Checks.INDEX, cone.desk(), "point", point, i);
                    }
                }
            }
        }
    }

    private void neither() {
        checks.about("IndexOutOfBoundsException: there is no such point and no such coordinate");
        for (Cone cone : Cones.small()) {
            int count = cone.desk().basis();
            for (int point : Checks.outside(0, count - 1)) {
                for (int i : Checks.outside(0, cone.dimension - 1)) {
                    checks.throwsJust(Checks.INDEX, cone.desk(), "point", point, i);
                }
            }
        }
    }
}
