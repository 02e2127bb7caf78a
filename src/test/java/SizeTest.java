/** Promise 8. */
public final class SizeTest {
    private final Checks checks = new Checks();

    public static void main(String[] args) {
        SizeTest test = new SizeTest();
        test.everySize();
        test.noRays();
        test.notPointed();
        test.checks.end();
    }

    // The coordinates from SIZE on are held at 0 by one row for all of them: in a cone where none
    // of them is below 0, their negative sum is not below 0 either.
    private void everySize() {
        checks.about("SIZE: the rank of all rays");
        for (Cone orthant : Cones.ORTHANT) {
            checks.due(orthant.dimension, orthant.desk(), "size");
            for (int size = 0; size < orthant.dimension; size++) {
                int[] row = new int[orthant.dimension];
                for (int i = size; i < orthant.dimension; i++) {
                    row[i] = -1;
                }
                Cone cone = orthant.with(row);
                checks.due(size, cone.desk(), "size");
                checks.due(size, cone.desk(), "rays");
                checks.allAsDue("with SIZE " + size, cone, cone.desk());
            }
        }
        int[] due = {2, 2, 3};
        for (int k = 0; k < due.length; k++) {
            checks.due(due[k], Cones.FLAT[k].desk(), "size");
        }
        // More rays than SIZE.
        checks.due(3, Cones.OCTAGON.desk(), "size");
        checks.due(4, Cones.MANY_RAYS[3].desk(), "size");
    }

    private void noRays() {
        checks.about("SIZE is 0 where there are no rays");
        for (Cone cone : Cones.ZERO) {
            checks.due(0, cone.desk(), "size");
        }
        for (Cone cone : Cones.HALF_LINE) {
            checks.due(1, cone.desk(), "size");
        }
    }

    private void notPointed() {
        checks.about("IllegalStateException: not pointed");
        for (Cone cone : Cones.notPointed()) {
            checks.refused(Checks.STATE, cone, "size");
        }
    }
}
