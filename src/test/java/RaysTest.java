import java.util.List;

/** Promises 6 to 10: rays, size, the rows that bound, and faces. */
public final class RaysTest {
    private final Checks checks = new Checks();

    public static void main(String[] args) {
        RaysTest test = new RaysTest();
        test.notPointed();
        test.plane();
        test.square();
        test.longestRay();
        test.halfLine();
        test.nothingButZero();
        test.flatCone();
        test.mostRays();
        test.boundingRows();
        test.checks.end();
    }

    private void raysAre(String what, ConeDesk desk, int[][] due) {
        checks.same(what + ": rays()", desk.rays(), due.length);
        checks.points(what + ": ray", desk::ray, List.of(due), desk.look(0));
    }

    private void facesAre(String what, ConeDesk desk, int... due) {
        for (int dimension = 0; dimension < due.length; dimension++) {
            checks.same(what + ": faces(" + dimension + ")", desk.faces(dimension), due[dimension]);
        }
        checks.same(what + ": size()", desk.size(), due.length - 1);
        for (int dimension : new int[] {Integer.MIN_VALUE, -1, due.length, 99, Integer.MAX_VALUE}) {
            checks.same(what + ": faces(" + dimension + ")", desk.faces(dimension), 0);
        }
    }

    private void boundsAre(String what, ConeDesk desk, int... due) {
        for (int row = 0; row < due.length; row++) {
            checks.same(what + ": bounds(" + row + ")", desk.bounds(row), due[row] == 1);
        }
        checks.fails(what + ": bounds(-1)", Checks.INDEX, () -> desk.bounds(-1));
        checks.fails(what + ": bounds(rows)", Checks.INDEX, () -> desk.bounds(due.length));
    }

    private void notPointed() {
        ConeDesk[] desks = {
            new ConeDesk(2), Checks.desk(2, new int[][] {{1, 2}, {-1, -2}, {2, 4}}),
            Checks.desk(3, new int[][] {{1, 0, 0}, {0, 1, 0}}),
            Checks.desk(4, new int[][] {{1, 0, 0, 0}, {0, 1, 0, 0}, {0, 0, 1, 0}})
        };
        for (ConeDesk desk : desks) {
            checks.fails("not pointed: rays()", Checks.STATE, desk::rays);
            checks.fails("not pointed: ray(0, 0)", Checks.STATE, () -> desk.ray(0, 0));
            checks.fails("not pointed: ray(-1, -1)", Checks.STATE, () -> desk.ray(-1, -1));
            checks.fails("not pointed: size()", Checks.STATE, desk::size);
            checks.fails("not pointed: bounds(0)", Checks.STATE, () -> desk.bounds(0));
            checks.fails("not pointed: bounds(99)", Checks.STATE, () -> desk.bounds(99));
            checks.fails("not pointed: faces(0)", Checks.STATE, () -> desk.faces(0));
            checks.fails("not pointed: faces(-1)", Checks.STATE, () -> desk.faces(-1));
        }
    }

    private void plane() {
        ConeDesk desk = Checks.desk(2, new int[][] {{4, 2}, {-4, 2}});
        raysAre("plane", desk, new int[][] {{-1, 2}, {1, 2}});
        checks.fails("plane: ray(0, -1)", Checks.INDEX, () -> desk.ray(0, -1));
        checks.fails("plane: ray(0, 2)", Checks.INDEX, () -> desk.ray(0, 2));
        facesAre("plane", desk, 1, 2, 1);
        boundsAre("plane", desk, 1, 1);
        desk.drop(0);
        checks.fails("plane, a row dropped: rays()", Checks.STATE, desk::rays);
        desk.add(1, 0, 0, 0);
        raysAre("plane, another row", desk, new int[][] {{0, 1}, {1, 2}});
    }

    private void square() {
        ConeDesk desk = Checks.desk(3, new int[][] {{1, 0, 1}, {-1, 0, 1}, {0, 1, 1}, {0, -1, 1}});
        raysAre("square", desk, new int[][] {{-1, -1, 1}, {-1, 1, 1}, {1, -1, 1}, {1, 1, 1}});
        facesAre("square", desk, 1, 4, 4, 1);
        boundsAre("square", desk, 1, 1, 1, 1);
    }

    // Determinants of three rows are up to 500 and need not have a common divisor.
    private void longestRay() {
        int[][] rows = {{4, -5, -5, -5}, {-5, 5, -5, -4}, {-5, 4, 5, -5}, {0, 0, 0, 1}};
        raysAre("longest", Checks.desk(4, rows), new int[][] {
            {-495, -455, -36, 95}, {-10, -9, 1, 0}, {-9, -10, -1, 0}, {-5, 5, -9, 0}
        });
    }

    private void halfLine() {
        ConeDesk desk = Checks.desk(2, new int[][] {{1, 1}, {-1, -1}, {0, -2}, {-1, -2}});
        raysAre("half line", desk, new int[][] {{1, -1}});
        facesAre("half line", desk, 1, 1);
        boundsAre("half line", desk, 0, 0, 1, 0);
    }

    private void nothingButZero() {
        ConeDesk desk = Checks.desk(2, new int[][] {{1, 0}, {-1, 1}, {-1, -1}});
        raysAre("zero", desk, new int[][] {});
        facesAre("zero", desk, 1);
        boundsAre("zero", desk, 0, 0, 0);
    }

    // Two rows that are each other's negatives leave a cone of size 2 in three dimensions.
    private void flatCone() {
        ConeDesk desk = Checks.desk(3, new int[][] {{0, 0, 1}, {0, 0, -1}, {1, 2, 0}, {1, -2, 5}, {2, -4, 0}});
        raysAre("flat", desk, new int[][] {{2, -1, 0}, {2, 1, 0}});
        facesAre("flat", desk, 1, 2, 1);
        boundsAre("flat", desk, 0, 0, 1, 1, 0);
    }

    // A solid with eight sides has at most twelve corners: a cut of each of four corners of a
    // tetrahedron.
    private void mostRays() {
        int[][] rows = {
            {1, 0, 0, 0}, {0, 1, 0, 0}, {0, 0, 1, 0}, {0, 0, 0, 1},
            {-1, 2, 2, 2}, {2, -1, 2, 2}, {2, 2, -1, 2}, {2, 2, 2, -1}
        };
        ConeDesk desk = Checks.desk(4, rows);
        checks.same("most: rays()", desk.rays(), 12);
        facesAre("most", desk, 1, 12, 18, 8, 1);
        boundsAre("most", desk, 1, 1, 1, 1, 1, 1, 1, 1);
        checks.same("most: ray(0, 2)", desk.ray(0, 2), 1);
        checks.same("most: ray(0, 3)", desk.ray(0, 3), 2);
        checks.same("most: ray(11, 0)", desk.ray(11, 0), 2);
        checks.same("most: ray(11, 1)", desk.ray(11, 1), 1);
    }

    private void boundingRows() {
        int[][] rows = {{1, 1, 1}, {2, 0, 0}, {0, 1, 0}, {1, 0, 0}, {0, 0, 1}, {1, 1, 0}, {0, 0, 3}};
        ConeDesk desk = Checks.desk(3, rows);
        boundsAre("octant", desk, 0, 1, 1, 0, 1, 0, 0);
        facesAre("octant", desk, 1, 3, 3, 1);
        desk.drop(1);
        boundsAre("octant, a row dropped", desk, 0, 1, 1, 1, 0, 0);
    }
}
