import java.util.Arrays;

/** Promise 6. */
public final class RaysTest {
    private final Checks checks = new Checks();

    public static void main(String[] args) {
        RaysTest test = new RaysTest();
        test.fromNoneToTwelve();
        test.eachPolygon();
        test.notPointed();
        test.lastLineGoes();
        test.lastLineComesBack();
        test.checks.end();
    }

    private void raysAre(int due, Cone cone) {
        checks.due(due, cone.desk(), "rays");
        checks.allAsDue("with " + due + " rays", cone, cone.desk());
    }

    private void fromNoneToTwelve() {
        checks.about("how many rays there are");
        for (int k = 0; k < 3; k++) {
            raysAre(0, Cones.ZERO[k]);
            raysAre(1, Cones.HALF_LINE[k]);
            raysAre(k + 2, Cones.ORTHANT[k]);
            raysAre(k + 2, Cones.NEGATIVE_ORTHANT[k]);
        }
        // Over a square, a square's pyramid, a triangle's prism, a solid with seven corners, and so
        // on up to the most that eight rows can have.
        raysAre(4, new Cone(3, new int[][] {{1, 0, 1}, {-1, 0, 1}, {0, 1, 1}, {0, -1, 1}}));
        raysAre(5, new Cone(4, new int[][] {{1, 0, 0, 0}, {-1, 0, -1, 1}, {0, 1, 0, 0}, {0, -1, -1, 1}, {0, 0, 1, 0}}));
        raysAre(6, new Cone(4, new int[][] {{1, 0, 0, 0}, {0, 1, 0, 0}, {-1, -1, 0, 1}, {0, 0, 1, 0}, {0, 0, -1, 1}}));
        raysAre(7, new Cone(4, new int[][] {
            {-1, 0, -1, -1}, {1, 0, 0, 0}, {0, 0, -1, 1}, {0, -1, -1, 0}, {1, -1, 0, 0}, {0, 1, -1, -1}
        }));
        raysAre(8, Cones.CUBE);
        for (int k = 0; k < 4; k++) {
            raysAre(9 + k, Cones.MANY_RAYS[k]);
        }
        // A tetrahedron with each corner cut off.
        raysAre(12, new Cone(4, new int[][] {
            {1, 0, 0, 0}, {0, 1, 0, 0}, {0, 0, 1, 0}, {0, 0, 0, 1},
            {-1, 2, 2, 2}, {2, -1, 2, 2}, {2, 2, -1, 2}, {2, 2, 2, -1}
        }));
    }

    // The octagon with fewer and fewer of its sides, until the four that go along no axis are gone.
    private void eachPolygon() {
        checks.about("how many rays there are, with fewer and fewer rows");
        Cone cone = Cones.OCTAGON;
        for (int sides = 8; sides >= 4; sides--) {
            raysAre(sides, cone);
            cone = sides > 4 ? cone.without(2 * sides - 9) : cone;
        }
    }

    private void notPointed() {
        checks.about("IllegalStateException: not pointed");
        for (Cone cone : Cones.notPointed()) {
            checks.refused(Checks.STATE, cone, "rays");
        }
    }

    private void lastLineGoes() {
        checks.about("the cone is POINTED if LINES is 0");
        for (Cone cone : Cones.ONE_LINE) {
            ConeDesk desk = cone.desk();
            checks.due(1, desk, "look", 3);
            checks.throwsJust(Checks.STATE, desk, "rays");
            Cone pointed = cone.with(Arrays.copyOf(new int[] {1, 1, 5, 0}, cone.dimension));
            desk.add(1, 1, 5, 0);
            checks.due(0, desk, "look", 3);
            checks.allAsDue("pointed now", pointed, desk);
        }
    }

    private void lastLineComesBack() {
        checks.about("IllegalStateException: not pointed, after a row was dropped");
        for (Cone cone : Cones.ORTHANT) {
            for (int row = 0; row < cone.dimension; row++) {
                ConeDesk desk = cone.desk();
                checks.due(cone.dimension, desk, "rays");
                desk.drop(row);
                checks.throwsJust(Checks.STATE, desk, "rays");
                int[] four = Cone.four(cone.rows[row]);
                desk.add(four[0], four[1], four[2], four[3]);
                checks.due(cone.dimension, desk, "rays");
            }
        }
    }
}
