/** Promises 1 to 5 and 13: new objects, rows, look and holds. */
public final class RowsTest {
    private static final int LOW = Integer.MIN_VALUE;
    private static final int HIGH = Integer.MAX_VALUE;

    private final Checks checks = new Checks();

    public static void main(String[] args) {
        RowsTest test = new RowsTest();
        test.newObjects();
        test.additions();
        test.wrongAdditions();
        test.drops();
        test.looks();
        test.coordinates();
        test.points();
        test.greatPoints();
        test.checks.end();
    }

    private void newObjects() {
        int[] asked = {LOW, -1, 0, 1, 2, 3, 4, 5, HIGH};
        int[] due = {2, 2, 2, 2, 2, 3, 4, 4, 4};
        for (int k = 0; k < asked.length; k++) {
            ConeDesk desk = new ConeDesk(asked[k]);
            checks.same("new: look(0)", desk.look(0), due[k]);
            checks.same("new: look(1)", desk.look(1), 0);
            checks.same("new: look(2)", desk.look(2), 0);
            checks.same("new: look(3)", desk.look(3), due[k]);
            checks.same("new: holds", desk.holds(LOW, HIGH, LOW, HIGH), true);
            checks.fails("new: row(0, 0)", Checks.INDEX, () -> desk.row(0, 0));
            checks.fails("new: drop(0)", Checks.INDEX, () -> desk.drop(0));
            checks.fails("new: rays()", Checks.STATE, desk::rays);
            checks.fails("new: basis()", Checks.STATE, desk::basis);
        }
    }

    private void additions() {
        ConeDesk desk = new ConeDesk(3);
        checks.same("add, the least", desk.add(-5, -5, -5, LOW), 0);
        checks.same("add, the greatest", desk.add(5, 5, 5, HIGH), 1);
        checks.same("add, the same again", desk.add(5, 5, 5, 0), 2);
        checks.same("add, one coordinate", desk.add(0, 0, 1, 0), 3);
        for (int k = 4; k < 8; k++) {
            checks.same("add, further", desk.add(k - 5, 1, 0, 0), k);
        }
        checks.fails("add, the ninth", Checks.STATE, () -> desk.add(1, 0, 0, 0));
        checks.fails("add, the ninth and wrong", Checks.ARGUMENT, () -> desk.add(6, 0, 0, 0));
        checks.fails("add, the ninth and 0", Checks.ARGUMENT, () -> desk.add(0, 0, 0, 1));
        checks.same("add: look(1)", desk.look(1), 8);
        desk.drop(0);
        checks.same("add, the eighth again", desk.add(1, 2, 3, 0), 7);
    }

    private void wrongAdditions() {
        for (int dimension = 2; dimension <= 4; dimension++) {
            ConeDesk desk = new ConeDesk(dimension);
            for (int i = 0; i < 4; i++) {
                for (int value : new int[] {LOW, -6, 6, HIGH}) {
                    int[] row = {1, 1, 1, 1};
                    row[i] = value;
                    checks.fails("add, coordinate " + i + " is " + value, i < dimension ? Checks.ARGUMENT : null,
                            () -> desk.add(row[0], row[1], row[2], row[3]));
                }
                while (desk.look(1) > 0) {
                    desk.drop(0);
                }
            }
            checks.fails("add, 0", Checks.ARGUMENT, () -> desk.add(0, 0, 0, 0));
            checks.same("add, wrong ones: look(1)", desk.look(1), 0);
        }
        checks.fails("add, 0 in two dimensions", Checks.ARGUMENT, () -> new ConeDesk(2).add(0, 0, 1, 1));
        checks.fails("add, 0 in three dimensions", Checks.ARGUMENT, () -> new ConeDesk(3).add(0, 0, 0, 1));
    }

    private void drops() {
        ConeDesk desk = new ConeDesk(2);
        for (int k = 0; k < 4; k++) {
            desk.add(k, 1, 0, 0);
        }
        for (int row : new int[] {LOW, -1, 4, 8, HIGH}) {
            checks.fails("drop(" + row + ")", Checks.INDEX, () -> desk.drop(row));
        }
        checks.same("drop, wrong ones: look(1)", desk.look(1), 4);
        desk.drop(1);
        checks.same("drop(1): look(1)", desk.look(1), 3);
        checks.same("drop(1): row(0, 0)", desk.row(0, 0), 0);
        checks.same("drop(1): row(1, 0)", desk.row(1, 0), 2);
        checks.same("drop(1): row(2, 0)", desk.row(2, 0), 3);
        checks.fails("drop(1): row(3, 0)", Checks.INDEX, () -> desk.row(3, 0));
        desk.drop(2);
        desk.drop(0);
        checks.same("drop: row(0, 0)", desk.row(0, 0), 2);
        desk.drop(0);
        checks.fails("drop, none left", Checks.INDEX, () -> desk.drop(0));
        checks.same("drop: add", desk.add(1, 1, 0, 0), 0);
    }

    private void looks() {
        ConeDesk desk = new ConeDesk(4);
        int[][] rows = {{1, 2, 3, 4}, {-1, -2, -3, -4}, {0, 1, 0, 0}, {1, 3, 3, 4}, {5, 5, 5, 5}, {0, 0, 0, 5}};
        int[] ranks = {1, 1, 2, 2, 3, 4};
        for (int k = 0; k < rows.length; k++) {
            desk.add(rows[k][0], rows[k][1], rows[k][2], rows[k][3]);
            checks.same("look(0)", desk.look(0), 4);
            checks.same("look(1)", desk.look(1), k + 1);
            checks.same("look(2)", desk.look(2), ranks[k]);
            checks.same("look(3)", desk.look(3), 4 - ranks[k]);
        }
        desk.drop(4);
        checks.same("look(2) after drop", desk.look(2), 3);
        checks.same("look(3) after drop", desk.look(3), 1);
        for (int what : new int[] {LOW, -1, 4, 5, HIGH}) {
            checks.same("look(" + what + ")", desk.look(what), -1);
        }
    }

    private void coordinates() {
        for (int dimension = 2; dimension <= 4; dimension++) {
            ConeDesk desk = new ConeDesk(dimension);
            desk.add(1, -2, 3, -4);
            desk.add(-5, 5, -5, 5);
            int end = dimension;
            int[] first = {1, -2, 3, -4};
            int[] second = {-5, 5, -5, 5};
            for (int i = 0; i < dimension; i++) {
                checks.same("row(0, " + i + ")", desk.row(0, i), first[i]);
                checks.same("row(1, " + i + ")", desk.row(1, i), second[i]);
            }
            checks.fails("row(0, dimension)", Checks.INDEX, () -> desk.row(0, end));
            checks.fails("row(0, -1)", Checks.INDEX, () -> desk.row(0, -1));
            checks.fails("row(0, HIGH)", Checks.INDEX, () -> desk.row(0, HIGH));
            checks.fails("row(-1, 0)", Checks.INDEX, () -> desk.row(-1, 0));
            checks.fails("row(2, 0)", Checks.INDEX, () -> desk.row(2, 0));
            checks.fails("row(LOW, LOW)", Checks.INDEX, () -> desk.row(LOW, LOW));
        }
    }

    private void points() {
        ConeDesk desk = new ConeDesk(2);
        desk.add(2, -3, 0, 0);
        checks.same("holds(3, 2), not pointed, tight", desk.holds(3, 2, 0, 0), true);
        checks.same("holds(-3, -2), not pointed, tight", desk.holds(-3, -2, 5, -5), true);
        checks.same("holds(2, 2), not pointed", desk.holds(2, 2, 9, 9), false);
        desk.add(0, 1, 0, 0);
        checks.same("holds(-3, -2)", desk.holds(-3, -2, 0, 0), false);
        checks.same("holds(0, 0)", desk.holds(0, 0, LOW, LOW), true);
        checks.same("holds(1, 0)", desk.holds(1, 0, 0, 0), true);
        ConeDesk other = new ConeDesk(4);
        other.add(1, 1, 1, 1);
        checks.same("holds(1, 1, 1, -3)", other.holds(1, 1, 1, -3), true);
        checks.same("holds(1, 1, 1, -4)", other.holds(1, 1, 1, -4), false);
    }

    // Products of great numbers do not fit an int.
    private void greatPoints() {
        ConeDesk desk = new ConeDesk(4);
        desk.add(5, 5, 5, 5);
        checks.same("holds, all the greatest", desk.holds(HIGH, HIGH, HIGH, HIGH), true);
        checks.same("holds, all the least", desk.holds(LOW, LOW, LOW, LOW), false);
        checks.same("holds, one less", desk.holds(HIGH, LOW, 0, 0), false);
        checks.same("holds, even", desk.holds(HIGH, LOW, 1, 0), true);
        desk.add(-5, -5, -5, -5);
        checks.same("holds, all the greatest, two rows", desk.holds(HIGH, HIGH, HIGH, HIGH), false);
        checks.same("holds, even, two rows", desk.holds(LOW, HIGH, 0, 1), true);
    }
}
