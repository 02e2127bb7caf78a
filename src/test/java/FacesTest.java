/** Promise 10. */
public final class FacesTest {
    private final Checks checks = new Checks();

    public static void main(String[] args) {
        FacesTest test = new FacesTest();
        test.ofEachDimension();
        test.rowsThatAddNoFace();
        test.belowZero();
        test.aboveSize();
        test.ofNoRays();
        test.ofAllRays();
        test.notPointed();
        test.checks.end();
    }

    private void facesAre(Cone cone, int... due) {
        ConeDesk desk = cone.desk();
        for (int dimension = 0; dimension < due.length; dimension++) {
            checks.due(due[dimension], desk, "faces", dimension);
        }
        checks.due(due.length - 1, desk, "size");
        checks.due(0, desk, "faces", -1);
        checks.due(0, desk, "faces", due.length);
    }

    private void ofEachDimension() {
        checks.about("how many faces of a dimension there are");
        facesAre(Cones.ORTHANT[0], 1, 2, 1);
        facesAre(Cones.ORTHANT[1], 1, 3, 3, 1);
        facesAre(Cones.ORTHANT[2], 1, 4, 6, 4, 1);
        facesAre(Cones.OCTAGON, 1, 8, 8, 1);
        facesAre(Cones.CUBE, 1, 8, 12, 6, 1);
        // The most faces that eight rows make.
        facesAre(Cones.MANY_RAYS[3], 1, 12, 18, 8, 1);
        facesAre(Cones.FLAT[0], 1, 2, 1);
        facesAre(Cones.FLAT[2], 1, 4, 4, 1);
        // A square's pyramid and a triangle's prism.
        facesAre(new Cone(4, new int[][] {
            {1, 0, 0, 0}, {-1, 0, -1, 1}, {0, 1, 0, 0}, {0, -1, -1, 1}, {0, 0, 1, 0}
        }), 1, 5, 8, 5, 1);
        facesAre(new Cone(4, new int[][] {
            {1, 0, 0, 0}, {0, 1, 0, 0}, {-1, -1, 0, 1}, {0, 0, 1, 0}, {0, 0, -1, 1}
        }), 1, 6, 9, 5, 1);
    }

    private void rowsThatAddNoFace() {
        checks.about("a face is a set of rays: rows that are tight at the same rays make one face");
        facesAre(Cones.FULL[0], 1, 2, 1);
        facesAre(Cones.FULL[2], 1, 8, 12, 6, 1);
        facesAre(Cones.ORTHANT[1].with(1, 1, 0).with(1, 1, 1).with(2, 0, 0), 1, 3, 3, 1);
    }

    private void belowZero() {
        checks.about("0 for a dimension below 0");
        for (Cone cone : Cones.pointed()) {
            for (int dimension : new int[] {Checks.LOW, Checks.LOW + 1, -100, -5, -4, -3, -2, -1}) {
                checks.due(0, cone.desk(), "faces", dimension);
            }
        }
    }

    private void aboveSize() {
        checks.about("0 for a dimension above SIZE");
        for (Cone cone : Cones.pointed()) {
            int size = cone.desk().size();
            for (int above : new int[] {size + 1, size + 2, 5, 6, 8, 100, Checks.HIGH - 1, Checks.HIGH}) {
                checks.due(0, cone.desk(), "faces", above);
            }
            ConeDesk desk = cone.desk();
            checks.due(0, desk, "faces", Checks.HIGH);
            checks.allAsDue("after faces", cone, desk);
        }
    }

    private void ofNoRays() {
        checks.about("its dimension is the rank of its rays (0 for none)");
        for (Cone cone : Cones.pointed()) {
            checks.due(1, cone.desk(), "faces", 0);
        }
        for (Cone cone : Cones.ZERO) {
            facesAre(cone, 1);
        }
        for (Cone cone : Cones.HALF_LINE) {
            facesAre(cone, 1, 1);
        }
    }

    private void ofAllRays() {
        checks.about("all rows of some set of rows (also of no rows)");
        for (Cone cone : Cones.pointed()) {
            ConeDesk desk = cone.desk();
            int size = desk.size();
            checks.due(1, desk, "faces", size);
            if (size > 0) {
                checks.due(desk.rays(), desk, "faces", 1);
            }
        }
    }

    private void notPointed() {
        checks.about("IllegalStateException: not pointed");
        for (Cone cone : Cones.notPointed()) {
            for (int dimension : new int[] {Checks.LOW, -1, 0, 1, 2, 3, 4, 5, Checks.HIGH}) {
                checks.refused(Checks.STATE, cone, "faces", dimension);
            }
        }
    }
}
