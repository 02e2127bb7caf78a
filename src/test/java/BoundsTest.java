/** Promise 9. */
public final class BoundsTest {
    private final Checks checks = new Checks();

    public static void main(String[] args) {
        BoundsTest test = new BoundsTest();
        test.everyRowOfASimplex();
        test.tightAtTooLittle();
        test.tightAtEverything();
        test.lesserNumberTightAtTheSame();
        test.halfLine();
        test.nothingButZero();
        test.flatCones();
        test.notPointedComesFirst();
        test.noSuchRow();
        test.checks.end();
    }

    private void boundsAre(Cone cone, int... due) {
        ConeDesk desk = cone.desk();
        for (int row = 0; row < due.length; row++) {
            checks.due(due[row] == 1, desk, "bounds", row);
        }
        checks.throwsJust(Checks.INDEX, desk, "bounds", due.length);
    }

    private void everyRowOfASimplex() {
        checks.about("the rays at which it is tight are a face of dimension SIZE - 1");
        boundsAre(Cones.ORTHANT[0], 1, 1);
        boundsAre(Cones.ORTHANT[1], 1, 1, 1);
        boundsAre(Cones.ORTHANT[2], 1, 1, 1, 1);
        boundsAre(Cones.OCTAGON, 1, 1, 1, 1, 1, 1, 1, 1);
        boundsAre(Cones.MANY_RAYS[3], 1, 1, 1, 1, 1, 1, 1, 1);
    }

    // Rows that touch the cone in a ray, in an edge, or in nothing but 0.
    private void tightAtTooLittle() {
        checks.about("a face of a dimension less than SIZE - 1 does not do");
        boundsAre(Cones.ORTHANT[0].with(1, 1), 1, 1, 0);
        boundsAre(Cones.ORTHANT[1].with(1, 1, 0).with(1, 1, 1).with(5, 0, 1), 1, 1, 1, 0, 0, 0);
        boundsAre(Cones.ORTHANT[2].with(1, 1, 0, 0).with(1, 1, 1, 0).with(1, 1, 1, 1), 1, 1, 1, 1, 0, 0, 0);
        boundsAre(new Cone(3, new int[][] {{1, 1, 0}, {1, 0, 0}, {0, 1, 0}, {0, 0, 1}}), 0, 1, 1, 1);
        boundsAre(Cones.FULL[2], 1, 1, 1, 1, 1, 1, 0, 0);
    }

    private void tightAtEverything() {
        checks.about("a face of dimension SIZE does not do");
        boundsAre(new Cone(2, new int[][] {{1, 0}, {-1, 0}, {0, 1}}), 0, 0, 1);
        boundsAre(new Cone(3, new int[][] {{1, 0, 0}, {-1, 0, 0}, {0, 1, 0}, {0, 0, 1}}), 0, 0, 1, 1);
    }

    private void lesserNumberTightAtTheSame() {
        checks.about("no row with a lesser number is tight at just the same rays");
        Cone cone = new Cone(3, new int[][] {
            {1, 1, 1}, {2, 0, 0}, {0, 1, 0}, {1, 0, 0}, {0, 0, 1}, {1, 1, 0}, {0, 0, 3}
        });
        boundsAre(cone, 0, 1, 1, 0, 1, 0, 0);
        ConeDesk desk = cone.desk();
        desk.drop(1);
        checks.due(true, desk, "bounds", 1);
        checks.due(true, desk, "bounds", 2);
        checks.due(true, desk, "bounds", 3);
        checks.due(false, desk, "bounds", 5);
        desk.add(2, 0, 0, 0);
        checks.due(true, desk, "bounds", 2);
        checks.due(false, desk, "bounds", 6);
        boundsAre(new Cone(2, new int[][] {
            {1, 0}, {2, 0}, {3, 0}, {0, 1}, {0, 2}, {1, 0}, {0, 1}, {5, 0}
        }), 1, 0, 0, 1, 0, 0, 0, 0);
    }

    // SIZE is 1: the face of dimension 0, of no ray, is bounded by the first row that is tight at none.
    private void halfLine() {
        checks.about("SIZE - 1 is 0 for a half line: tight at no ray");
        boundsAre(Cones.HALF_LINE[0], 0, 0, 1, 0);
        boundsAre(new Cone(2, new int[][] {{-1, -2}, {1, 1}, {-1, -1}, {0, -2}}), 1, 0, 0, 0);
        boundsAre(Cones.HALF_LINE[2], 0, 0, 0, 0, 0, 0, 1);
    }

    private void nothingButZero() {
        checks.about("SIZE - 1 is -1 for the point 0 alone: no face has that dimension");
        boundsAre(Cones.ZERO[0], 0, 0, 0);
        boundsAre(Cones.ZERO[1], 0, 0, 0, 0);
        boundsAre(Cones.ZERO[2], 0, 0, 0, 0, 0);
    }

    private void flatCones() {
        checks.about("a face of dimension SIZE - 1, where SIZE is less than the dimension");
        boundsAre(Cones.FLAT[0], 0, 0, 1, 1, 0);
        boundsAre(Cones.FLAT[1], 0, 0, 0, 0, 1, 1);
        boundsAre(Cones.FLAT[2], 0, 0, 1, 1, 1, 1);
    }

    private void notPointedComesFirst() {
        checks.about("IllegalStateException: not pointed; else IndexOutOfBoundsException");
        for (Cone cone : Cones.notPointed()) {
            for (int row : new int[] {Checks.LOW, -1, 0, cone.rows.length - 1, cone.rows.length, 8, Checks.HIGH}) {
                checks.refused(Checks.STATE, cone, "bounds", row);
            }
        }
    }

    private void noSuchRow() {
        checks.about("IndexOutOfBoundsException: there is no such row");
        for (Cone cone : Cones.pointed()) {
            for (int row : Checks.outside(0, cone.rows.length - 1)) {
                checks.refused(Checks.INDEX, cone, "bounds", row);
            }
        }
        ConeDesk desk = Cones.FULL[0].desk();
        checks.due(false, desk, "bounds", 7);
        checks.throwsJust(Checks.INDEX, desk, "bounds", 8);
        desk.drop(7);
        checks.throwsJust(Checks.INDEX, desk, "bounds", 7);
    }
}
