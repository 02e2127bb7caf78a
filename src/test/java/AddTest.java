/** Promise 2. */
public final class AddTest {
    private static final int LOW = Checks.LOW;
    private static final int HIGH = Checks.HIGH;

    private final Checks checks = new Checks();

    public static void main(String[] args) {
        AddTest test = new AddTest();
        test.answersTheNumber();
        test.coordinatesWithinReach();
        test.coordinatesOutOfReach();
        test.numbersBeyondTheDimension();
        test.allAreZero();
        test.eightAreThere();
        test.wrongRowComesFirst();
        test.changesTheCone();
        test.checks.end();
    }

    private void answersTheNumber() {
        checks.about("adds a row: its number");
        for (int dimension = 2; dimension <= 4; dimension++) {
            ConeDesk desk = new ConeDesk(dimension);
            for (int number = 0; number < 8; number++) {
                // Some rows are there twice, or are negatives of each other.
                int[] row = {number % 3 - 1, 1 - number % 2 * 2, number % 2, 0};
                checks.due(number, desk, "add", row);
                checks.due(number + 1, desk, "look", 1);
                for (int i = 0; i < dimension; i++) {
                    checks.due(row[i], desk, "row", number, i);
                }
            }
            desk.drop(3);
            checks.due(7, desk, "add", 5, 4, 3, 2);
            checks.due(4, desk, "row", 7, 1);
            while (desk.look(1) > 0) {
                desk.drop(0);
            }
            checks.due(0, desk, "add", 5, 4, 3, 2);
        }
    }

    private void coordinatesWithinReach() {
        checks.about("coordinates -5 .. 5");
        for (int dimension = 2; dimension <= 4; dimension++) {
            for (int i = 0; i < dimension; i++) {
                for (int value = -5; value <= 5; value++) {
                    for (int others : new int[] {-5, -1, 0, 1, 5}) {
                        acceptsOne(dimension, i, value, others);
                    }
                }
            }
        }
    }

    private void acceptsOne(int dimension, int i, int value, int others) {
        if (value == 0 && others == 0) {
            return;
        }
        int[] row = {others, others, others, others};
        row[i] = value;
        ConeDesk desk = new ConeDesk(dimension);
        checks.due(0, desk, "add", row);
        checks.due(1, desk, "look", 1);
        checks.due(1, desk, "look", 2);
        checks.due(value, desk, "row", 0, i);
    }

    private void coordinatesOutOfReach() {
        checks.about("IllegalArgumentException: a coordinate that counts is not -5 .. 5");
        Cone[] cones = {Cones.EMPTY[0], Cones.ORTHANT[0], Cones.EMPTY[1], Cones.FLAT[0], Cones.EMPTY[2], Cones.CUBE};
        for (Cone cone : cones) {
            for (int i = 0; i < cone.dimension; i++) {
                for (int value : Checks.outside(-5, 5)) {
                    for (int others : new int[] {0, 1, 5, -5}) {
                        int[] row = {others, others, others, others};
                        row[i] = value;
                        checks.refused(Checks.ARGUMENT, cone, "add", row);
                    }
                }
            }
            for (int value : new int[] {LOW, LOW + 1, -1000, -256, -10, -7, 7, 10, 256, 1000, HIGH - 1, HIGH}) {
                checks.refused(Checks.ARGUMENT, cone, "add", value, value, value, value);
            }
        }
    }

    private void numbersBeyondTheDimension() {
        checks.about("of numbers that are given beyond the dimension nothing counts");
        int[] beyond = {LOW, -6, -1, 0, 1, 6, HIGH};
        for (int d : beyond) {
            addsAs(Cones.FLAT[0].with(3, -2, 5), 3, -2, 5, d);
            for (int c : beyond) {
                addsAs(Cones.ORTHANT[0].with(-5, 5), -5, 5, c, d);
            }
        }
    }

    private void addsAs(Cone due, int... four) {
        ConeDesk desk = due.without(due.rows.length - 1).desk();
        checks.due(due.rows.length - 1, desk, "add", four);
        checks.allAsDue("with numbers beyond the dimension", due, desk);
    }

    private void allAreZero() {
        checks.about("IllegalArgumentException: all are 0");
        for (int beyond : new int[] {LOW, -1, 0, 1, HIGH}) {
            checks.refused(Checks.ARGUMENT, Cones.ORTHANT[0], "add", 0, 0, beyond, beyond);
            checks.refused(Checks.ARGUMENT, Cones.EMPTY[0], "add", 0, 0, 0, beyond);
            checks.refused(Checks.ARGUMENT, Cones.EMPTY[0], "add", 0, 0, beyond, 0);
            checks.refused(Checks.ARGUMENT, Cones.ORTHANT[1], "add", 0, 0, 0, beyond);
            checks.refused(Checks.ARGUMENT, Cones.EMPTY[1], "add", 0, 0, 0, beyond);
        }
        checks.refused(Checks.ARGUMENT, Cones.ORTHANT[2], "add", 0, 0, 0, 0);
        checks.refused(Checks.ARGUMENT, Cones.EMPTY[2], "add", 0, 0, 0, 0);
        for (int dimension = 2; dimension <= 4; dimension++) {
            for (int i = 0; i < dimension; i++) {
                acceptsOne(dimension, i, 1, 0);
                acceptsOne(dimension, i, -1, 0);
            }
        }
    }

    private void eightAreThere() {
        checks.about("IllegalStateException: eight are there");
        for (Cone[] group : new Cone[][] {Cones.FULL, Cones.FULL_WITH_A_LINE, Cones.MANY_RAYS}) {
            for (Cone full : group) {
                checks.refused(Checks.STATE, full, "add", 1, 0, 0, 0);
                checks.refused(Checks.STATE, full, "add", -5, 5, -5, 5);
                checks.refused(Checks.STATE, full, "add", Cone.four(full.rows[7]));
                ConeDesk seven = full.without(7).desk();
                checks.due(7, seven, "look", 1);
                checks.due(7, seven, "add", Cone.four(full.rows[7]));
                checks.allAsDue("the eighth added", full, seven);
                checks.throwsJust(Checks.STATE, seven, "add", 1, 1, 1, 1);
                seven.drop(0);
                checks.due(7, seven, "add", 1, 1, 1, 1);
                checks.throwsJust(Checks.STATE, seven, "add", 1, 1, 1, 1);
            }
        }
    }

    private void wrongRowComesFirst() {
        checks.about("IllegalArgumentException, else IllegalStateException: eight are there");
        for (Cone full : Cones.FULL) {
            checks.refused(Checks.ARGUMENT, full, "add", 6, 0, 0, 0);
            checks.refused(Checks.ARGUMENT, full, "add", 1, -6, 0, 0);
            checks.refused(Checks.ARGUMENT, full, "add", LOW, HIGH, LOW, HIGH);
            checks.refused(Checks.ARGUMENT, full, "add", 0, 0, 0, 0);
            checks.refused(full.dimension > 2 ? Checks.ARGUMENT : Checks.STATE, full, "add", 1, 1, 6, 0);
            checks.refused(full.dimension > 3 ? Checks.ARGUMENT : Checks.STATE, full, "add", 1, 1, 1, 6);
            checks.refused(full.dimension > 2 ? Checks.STATE : Checks.ARGUMENT, full, "add", 0, 0, 5, 0);
            checks.refused(full.dimension > 3 ? Checks.STATE : Checks.ARGUMENT, full, "add", 0, 0, 0, 5);
        }
    }

    private void changesTheCone() {
        checks.about("adds a row, also after all was asked");
        for (Cone whole : Cones.all()) {
            if (whole.rows.length > 0) {
                int last = whole.rows.length - 1;
                Cone before = whole.without(last);
                ConeDesk desk = before.desk();
                checks.allAsDue("before add", before, desk);
                checks.due(last, desk, "add", Cone.four(whole.rows[last]));
                checks.allAsDue("after add", whole, desk);
            }
        }
    }
}
