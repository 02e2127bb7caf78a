/** Promise 5. */
public final class RowTest {
    private final Checks checks = new Checks();

    public static void main(String[] args) {
        RowTest test = new RowTest();
        test.coordinateOfARow();
        test.noSuchRow();
        test.noSuchCoordinate();
        test.neither();
        test.checks.end();
    }

    private void coordinateOfARow() {
        checks.about("coordinate i of a row");
        for (Cone cone : Cones.all()) {
            ConeDesk desk = cone.desk();
            for (int row = 0; row < cone.rows.length; row++) {
                for (int i = 0; i < cone.dimension; i++) {
                    checks.due(cone.rows[row][i], desk, "row", row, i);
                }
            }
        }
    }

    private void noSuchRow() {
        checks.about("IndexOutOfBoundsException: there is no such row");
        for (Cone cone : Cones.all()) {
            for (int row : Checks.outside(0, cone.rows.length - 1)) {
                checks.refused(Checks.INDEX, cone, "row", row, 0);
                checks.refused(Checks.INDEX, cone, "row", row, cone.dimension - 1);
            }
        }
        ConeDesk desk = Cones.FULL[2].desk();
        checks.due(4, desk, "row", 7, 3);
        checks.throwsJust(Checks.INDEX, desk, "row", 8, 0);
        desk.drop(2);
        checks.throwsJust(Checks.INDEX, desk, "row", 7, 3);
        checks.due(4, desk, "row", 6, 3);
    }

    private void noSuchCoordinate() {
        checks.about("IndexOutOfBoundsException: there is no such coordinate");
        for (Cone cone : Cones.all()) {
            for (int row = 0; row < cone.rows.length; row++) {
                for (int i : Checks.outside(0, cone.dimension - 1)) {
                    checks.throwsJust(Checks.INDEX, cone.desk(), "row", row, i);
                }
                // Where rows are kept one behind another, this would be another row's coordinate.
                for (int i = -4; i <= 8; i++) {
                    if (i < 0 || i >= cone.dimension) {
                        checks.throwsJust(Checks.INDEX, cone.desk(), "row", row, i);
                    }
                }
            }
            for (int i : Checks.outside(0, cone.dimension - 1)) {
                checks.refused(Checks.INDEX, cone, "row", 0, i);
            }
        }
    }

    private void neither() {
        checks.about("IndexOutOfBoundsException: there is no such row and no such coordinate");
        for (Cone cone : Cones.all()) {
            for (int row : Checks.outside(0, cone.rows.length - 1)) {
                for (int i : Checks.outside(0, cone.dimension - 1)) {
                    checks.throwsJust(Checks.INDEX, cone.desk(), "row", row, i);
                }
            }
        }
    }
}
