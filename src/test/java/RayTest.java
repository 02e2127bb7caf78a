/** Promise 7. */
public final class RayTest {
    private final Checks checks = new Checks();

    public static void main(String[] args) {
        RayTest test = new RayTest();
        test.inTheirOrder();
        test.withoutCommonDivisor();
        test.longestRays();
        test.notPointedComesFirst();
        test.noSuchRay();
        test.noSuchCoordinate();
        test.neither();
        test.checks.end();
    }

    private void raysAre(Cone cone, int[]... due) {
        ConeDesk desk = cone.desk();
        checks.due(due.length, desk, "rays");
        for (int ray = 0; ray < due.length; ray++) {
            for (int i = 0; i < cone.dimension; i++) {
                checks.due(due[ray][i], desk, "ray", ray, i);
            }
        }
    }

    private void inTheirOrder() {
        checks.about("ordered by the first coordinate, then the second one, and so on");
        raysAre(new Cone(2, new int[][] {{1, -1}, {1, 1}}), new int[][] {{1, -1}, {1, 1}});
        raysAre(new Cone(2, new int[][] {{1, 1}, {1, -1}}), new int[][] {{1, -1}, {1, 1}});
        raysAre(new Cone(2, new int[][] {{4, 2}, {-4, 2}}), new int[][] {{-1, 2}, {1, 2}});
        raysAre(new Cone(3, new int[][] {{1, 0, 1}, {-1, 0, 1}, {0, 1, 1}, {0, -1, 1}}),
                new int[][] {{-1, -1, 1}, {-1, 1, 1}, {1, -1, 1}, {1, 1, 1}});
        raysAre(Cones.NEGATIVE_ORTHANT[1], new int[][] {{-1, 0, 0}, {0, -1, 0}, {0, 0, -1}});
        raysAre(Cones.CUBE, new int[][] {
            {0, 0, 0, 1}, {0, 0, 1, 1}, {0, 1, 0, 1}, {0, 1, 1, 1},
            {1, 0, 0, 1}, {1, 0, 1, 1}, {1, 1, 0, 1}, {1, 1, 1, 1}
        });
        // The last coordinate alone tells these apart, with either sign before.
        raysAre(new Cone(4, new int[][] {
            {1, 0, 0, 5}, {1, 0, 0, -5}, {1, 1, 0, 0}, {-1, -1, 0, 0}, {1, 0, 1, 0}, {-1, 0, -1, 0}
        }),
                new int[][] {{5, -5, -5, -1}, {5, -5, -5, 1}});
        raysAre(new Cone(4, new int[][] {
            {-1, 0, 0, 5}, {-1, 0, 0, -5}, {1, 1, 0, 0}, {-1, -1, 0, 0}, {1, 0, 1, 0}, {-1, 0, -1, 0}
        }),
                new int[][] {{-5, 5, 5, -1}, {-5, 5, 5, 1}});
    }

    private void withoutCommonDivisor() {
        checks.about("without a common divisor above 1");
        for (int factor = 1; factor <= 5; factor++) {
            raysAre(new Cone(2, new int[][] {{factor, 0}, {0, -factor}}), new int[][] {{0, -1}, {1, 0}});
            raysAre(new Cone(3, new int[][] {{factor, factor, 0}, {factor, -factor, 0}, {0, 0, factor}}),
                    new int[][] {{0, 0, 1}, {1, -1, 0}, {1, 1, 0}});
            raysAre(new Cone(4, new int[][] {
                {factor, 0, 0, 0}, {0, factor, 0, 0}, {0, 0, -factor, 0}, {0, 0, 0, factor}
            }),
                    new int[][] {{0, 0, -1, 0}, {0, 0, 0, 1}, {0, 1, 0, 0}, {1, 0, 0, 0}});
        }
        // 2 and 4 have a common divisor, but not with 5.
        raysAre(new Cone(3, new int[][] {
            {5, 0, -2}, {-5, 0, 2}, {0, 5, -4}, {0, -5, 4}, {1, 0, 0}
        }), new int[] {2, 4, 5});
    }

    // Determinants of three rows are up to 500 and need not have a common divisor.
    private void longestRays() {
        checks.about("rays, as long as rows can make them");
        raysAre(new Cone(2, new int[][] {{5, 4}, {4, 5}}), new int[][] {{-4, 5}, {5, -4}});
        raysAre(new Cone(3, new int[][] {
            {5, 5, -4}, {-5, -5, 4}, {5, -4, 4}, {-5, 4, -4}, {1, 0, 0}
        }), new int[] {4, -40, -45});
        raysAre(Cones.HALF_LINE[2], new int[] {-495, -455, -36, 95});
        raysAre(new Cone(4, new int[][] {{4, -5, -5, -5}, {-5, 5, -5, -4}, {-5, 4, 5, -5}, {0, 0, 0, 1}}),
                new int[][] {{-495, -455, -36, 95}, {-10, -9, 1, 0}, {-9, -10, -1, 0}, {-5, 5, -9, 0}});
    }

    private void notPointedComesFirst() {
        checks.about("IllegalStateException: not pointed; else IndexOutOfBoundsException");
        for (Cone cone : Cones.notPointed()) {
            for (int ray : new int[] {Checks.LOW, -1, 0, 1, 8, 12, Checks.HIGH}) {
                checks.refused(Checks.STATE, cone, "ray", ray, 0);
                checks.refused(Checks.STATE, cone, "ray", ray, -1);
                checks.refused(Checks.STATE, cone, "ray", 0, ray);
                checks.refused(Checks.STATE, cone, "ray", ray, ray);
            }
        }
    }

    private void noSuchRay() {
        checks.about("IndexOutOfBoundsException: there is no such ray");
        for (Cone cone : Cones.pointed()) {
            int count = cone.desk().rays();
            for (int ray : Checks.outside(0, count - 1)) {
                checks.refused(Checks.INDEX, cone, "ray", ray, 0);
                checks.refused(Checks.INDEX, cone, "ray", ray, cone.dimension - 1);
            }
        }
    }

    private void noSuchCoordinate() {
        checks.about("IndexOutOfBoundsException: there is no such coordinate");
        for (Cone cone : Cones.pointed()) {
            for (int i : Checks.outside(0, cone.dimension - 1)) {
                checks.refused(Checks.INDEX, cone, "ray", 0, i);
            }
            int count = cone.desk().rays();
            for (int ray = 0; ray < count; ray++) {
                for (int i = -4; i <= 8; i++) {
                    if (i < 0 || i >= cone.dimension) {
                        checks.throwsJust(Checks.INDEX, cone.desk(), "ray", ray, i);
                    }
                }
            }
        }
    }

    private void neither() {
        checks.about("IndexOutOfBoundsException: there is no such ray and no such coordinate");
        for (Cone cone : Cones.pointed()) {
            int count = cone.desk().rays();
            for (int ray : Checks.outside(0, count - 1)) {
                for (int i : Checks.outside(0, cone.dimension - 1)) {
                    checks.throwsJust(Checks.INDEX, cone.desk(), "ray", ray, i);
                }
            }
        }
    }
}
