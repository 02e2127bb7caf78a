import java.util.Arrays;

/** Promise 3. */
public final class DropTest {
    private final Checks checks = new Checks();

    public static void main(String[] args) {
        DropTest test = new DropTest();
        test.thoseBehindMoveUp();
        test.noneSuch();
        test.noneLeft();
        test.changesTheCone();
        test.moreThanEightInAll();
        test.checks.end();
    }

    private static Cone numbered(int dimension, int count) {
        Cone cone = new Cone(dimension);
        for (int row = 0; row < count; row++) {
            cone = cone.with(Arrays.copyOf(new int[] {row - 3, 1, -row % 6, row % 5}, dimension));
        }
        return cone;
    }

    private void thoseBehindMoveUp() {
        checks.about("when one is dropped, those behind it move up");
        for (int dimension = 2; dimension <= 4; dimension++) {
            for (int count = 1; count <= 8; count++) {
                Cone cone = numbered(dimension, count);
                for (int dropped = 0; dropped < count; dropped++) {
                    ConeDesk desk = cone.desk();
                    checks.due("done", desk, "drop", dropped);
                    checks.due(count - 1, desk, "look", 1);
                    for (int row = 0; row < count - 1; row++) {
                        int[] due = cone.rows[row < dropped ? row : row + 1];
                        for (int i = 0; i < dimension; i++) {
                            checks.due(due[i], desk, "row", row, i);
                        }
                    }
                    checks.throwsJust(Checks.INDEX, desk, "row", count - 1, 0);
                }
            }
        }
    }

    private void noneSuch() {
        checks.about("IndexOutOfBoundsException: there is none such");
        for (int dimension = 2; dimension <= 4; dimension++) {
            for (int count = 0; count <= 8; count++) {
                Cone cone = numbered(dimension, count);
                for (int row : Checks.outside(0, count - 1)) {
                    checks.refused(Checks.INDEX, cone, "drop", row);
                }
                checks.refused(Checks.INDEX, cone, "drop", 8);
                checks.refused(Checks.INDEX, cone, "drop", 100);
                checks.refused(Checks.INDEX, cone, "drop", Integer.MIN_VALUE + 1);
                if (count > 0) {
                    checks.due("done", cone.desk(), "drop", 0);
                    checks.due("done", cone.desk(), "drop", count - 1);
                }
            }
        }
    }

    private void noneLeft() {
        checks.about("there is none such, when all are dropped");
        for (int dimension = 2; dimension <= 4; dimension++) {
            ConeDesk desk = numbered(dimension, 8).desk();
            for (int left = 8; left > 0; left--) {
                checks.throwsJust(Checks.INDEX, desk, "drop", left);
                checks.due("done", desk, "drop", left % 2 == 0 ? 0 : left - 1);
            }
            for (int row : Checks.outside(0, -1)) {
                checks.throwsJust(Checks.INDEX, desk, "drop", row);
            }
            checks.allAsDue("all dropped", new Cone(dimension), desk);
            checks.due(0, desk, "add", 1, 2, 3, 4);
        }
    }

    private void changesTheCone() {
        checks.about("drops a row, also after all was asked");
        for (Cone cone : Cones.all()) {
            for (int row = 0; row < cone.rows.length; row++) {
                ConeDesk desk = cone.desk();
                checks.allAsDue("before drop", cone, desk);
                checks.due("done", desk, "drop", row);
                checks.allAsDue("after drop(" + row + ")", cone.without(row), desk);
            }
        }
    }

    private void moreThanEightInAll() {
        checks.about("at most 8 at a time");
        ConeDesk desk = numbered(4, 8).desk();
        for (int turn = 0; turn < 100; turn++) {
            checks.throwsJust(Checks.STATE, desk, "add", 1, 1, 1, 1);
            checks.due("done", desk, "drop", turn % 8);
            checks.due(7, desk, "add", 1, turn % 6, 0, 0);
            checks.due(turn % 6, desk, "row", 7, 1);
        }
        checks.due(8, desk, "look", 1);
    }
}
