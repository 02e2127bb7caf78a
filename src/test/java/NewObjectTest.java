/** Promise 1. */
public final class NewObjectTest {
    private static final int LOW = Checks.LOW;
    private static final int HIGH = Checks.HIGH;

    private final Checks checks = new Checks();

    public static void main(String[] args) {
        NewObjectTest test = new NewObjectTest();
        test.dimensionIsAsGiven();
        test.lesserDimensionCountsAsTwo();
        test.greaterDimensionCountsAsFour();
        test.noRows();
        test.objectsAreApart();
        test.checks.end();
    }

    private void dimensionIsAsGiven() {
        checks.about("the dimension is 2 .. 4");
        for (int dimension = 2; dimension <= 4; dimension++) {
            hasDimension(dimension, dimension);
        }
    }

    private void lesserDimensionCountsAsTwo() {
        checks.about("a lesser one counts as 2");
        for (int given : new int[] {LOW, LOW + 1, -5, -4, -3, -2, -1, 0, 1}) {
            hasDimension(2, given);
        }
    }

    private void greaterDimensionCountsAsFour() {
        checks.about("a greater one as 4");
        for (int given : new int[] {5, 6, 7, 8, 1000, HIGH - 1, HIGH}) {
            hasDimension(4, given);
        }
    }

    // Not only look says the dimension: as many coordinates count, and as many can be asked for.
    private void hasDimension(int due, int given) {
        ConeDesk desk = new ConeDesk(given);
        checks.due(due, desk, "look", 0);
        checks.due(due, desk, "look", 3);
        for (int i = 0; i < due; i++) {
            int[] row = new int[4];
            row[i] = 1;
            checks.due(i, desk, "add", row);
        }
        for (int i = due; i < 4; i++) {
            int[] row = new int[4];
            row[i] = 1;
            checks.throwsJust(Checks.ARGUMENT, desk, "add", row);
        }
        checks.due(0, desk, "look", 3);
        checks.due(due, desk, "rays");
        checks.due(0, desk, "row", 0, due - 1);
        checks.throwsJust(Checks.INDEX, desk, "row", 0, due);
        checks.due(0, desk, "ray", 0, 0);
        checks.due(1, desk, "ray", 0, due - 1);
        checks.throwsJust(Checks.INDEX, desk, "ray", 0, due);
    }

    private void noRows() {
        checks.about("no rows");
        for (int given : new int[] {LOW, 1, 2, 3, 4, 5, HIGH}) {
            ConeDesk desk = new ConeDesk(given);
            checks.due(0, desk, "look", 1);
            checks.due(0, desk, "look", 2);
            checks.throwsJust(Checks.INDEX, desk, "row", 0, 0);
            checks.throwsJust(Checks.INDEX, desk, "drop", 0);
            checks.due(true, desk, "holds", LOW, HIGH, LOW, HIGH);
            checks.due(0, desk, "add", 1, 0, 0, 0);
        }
        for (Cone cone : Cones.EMPTY) {
            checks.allAsDue("new", cone, cone.desk());
        }
    }

    private void objectsAreApart() {
        checks.about("what is done to one object is not seen in another one");
        Cone[] cones = {Cones.CUBE, Cones.FLAT[0], Cones.EMPTY[0], Cones.INDEX_THIRTEEN[0]};
        ConeDesk[] desks = new ConeDesk[cones.length];
        for (int k = 0; k < cones.length; k++) {
            desks[k] = cones[k].desk();
        }
        for (int round = 0; round < 2; round++) {
            for (int k = 0; k < cones.length; k++) {
                checks.allAsDue("beside others", cones[k], desks[k]);
            }
        }
    }
}
