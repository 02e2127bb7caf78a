import java.util.List;

/** Promises 11, 12, 14 and 15: the basis, its points, parts and least. */
public final class BasisTest {
    private static final int LOW = Integer.MIN_VALUE;
    private static final int HIGH = Integer.MAX_VALUE;

    private final Checks checks = new Checks();

    public static void main(String[] args) {
        BasisTest test = new BasisTest();
        test.notPointed();
        test.plane();
        test.cubicSimplex();
        test.flatCone();
        test.nothingButZero();
        test.indexTwelveAndAbove();
        test.indexBesideTheCutting();
        test.nineRays();
        test.partsOfPoints();
        test.partsTakeTheGreatestFirst();
        test.leastProducts();
        test.checks.end();
    }

    private void basisIs(String what, ConeDesk desk, int[][] due) {
        checks.same(what + ": basis()", desk.basis(), due.length);
        checks.points(what + ": point", desk::point, List.of(due), desk.look(0));
    }

    private void isLarge(String what, ConeDesk desk) {
        checks.same(what + ": basis()", desk.basis(), -1);
        checks.fails(what + ": point(0, 0)", Checks.STATE, () -> desk.point(0, 0));
        checks.fails(what + ": point(-1, -1)", Checks.STATE, () -> desk.point(-1, -1));
        checks.fails(what + ": parts(0, 0, 0, 0)", Checks.STATE, () -> desk.parts(0, 0, 0, 0));
        checks.fails(what + ": parts(101, 0, 0, 0)", Checks.STATE, () -> desk.parts(101, 0, 0, 0));
        checks.fails(what + ": least(0, 0, 0, 0)", Checks.STATE, () -> desk.least(0, 0, 0, 0));
        checks.fails(what + ": least(1001, 0, 0, 0)", Checks.ARGUMENT, () -> desk.least(1001, 0, 0, 0));
    }

    private void notPointed() {
        ConeDesk desk = Checks.desk(3, new int[][] {{1, 0, 0}, {0, 1, 0}, {1, 1, 0}});
        checks.fails("not pointed: basis()", Checks.STATE, desk::basis);
        checks.fails("not pointed: point(-1, 0)", Checks.STATE, () -> desk.point(-1, 0));
        checks.fails("not pointed: parts(0, 0, 0, 0)", Checks.STATE, () -> desk.parts(0, 0, 0, 0));
        checks.fails("not pointed: parts(-101, 0, 0, 0)", Checks.STATE, () -> desk.parts(-101, 0, 0, 0));
        checks.fails("not pointed: least(0, 0, 1000, 0)", Checks.STATE, () -> desk.least(0, 0, 1000, 0));
        checks.fails("not pointed: least(0, 0, 1001, 0)", Checks.ARGUMENT, () -> desk.least(0, 0, 1001, 0));
        desk.add(0, 0, 1, 0);
        basisIs("pointed now", desk, new int[][] {{0, 0, 1}, {0, 1, 0}, {1, 0, 0}});
    }

    private void plane() {
        ConeDesk desk = Checks.desk(2, new int[][] {{3, 1}, {-1, 2}});
        basisIs("plane", desk, new int[][] {{-1, 3}, {0, 1}, {1, 1}, {2, 1}});
        desk.add(1, 0, 0, 0);
        basisIs("plane, a row more", desk, new int[][] {{0, 1}, {1, 1}, {2, 1}});
        desk.drop(2);
        checks.same("plane, the row dropped: basis()", desk.basis(), 4);
    }

    // Rays (0, 1, 1), (1, 0, 1), (1, 1, 0) of INDEX 2, with their half sum between them.
    private void cubicSimplex() {
        ConeDesk desk = Checks.desk(3, new int[][] {{-1, 1, 1}, {1, -1, 1}, {1, 1, -1}});
        basisIs("simplex", desk, new int[][] {{0, 1, 1}, {1, 0, 1}, {1, 1, 0}, {1, 1, 1}});
    }

    // INDEX of fewer rays than coordinates: (1, 0, 0, 1) and (1, 2, 0, 1) span with INDEX 2.
    private void flatCone() {
        int[][] rows = {{0, 0, 1, 0}, {0, 0, -1, 0}, {1, 0, 0, -1}, {-1, 0, 0, 1}, {0, 1, 0, 0}, {2, -1, 0, 0}};
        ConeDesk desk = Checks.desk(4, rows);
        basisIs("flat", desk, new int[][] {{1, 0, 0, 1}, {1, 1, 0, 1}, {1, 2, 0, 1}});
        checks.same("flat: parts(7, 3, 0, 7)", desk.parts(7, 3, 0, 7), 7);
        checks.same("flat: parts(7, 3, 0, 6)", desk.parts(7, 3, 0, 6), -1);
    }

    private void nothingButZero() {
        ConeDesk desk = Checks.desk(3, new int[][] {{1, 0, 0}, {0, 1, 0}, {0, 0, 1}, {-1, -1, -1}});
        basisIs("zero", desk, new int[][] {});
        checks.same("zero: parts(0, 0, 0, 7)", desk.parts(0, 0, 0, 7), 0);
        checks.same("zero: parts(1, 0, 0, 0)", desk.parts(1, 0, 0, 0), -1);
        checks.same("zero: least(-9, -9, -9, 0)", desk.least(-9, -9, -9, 0), 0);
        checks.fails("zero: least(0, 0, -1001, 0)", Checks.ARGUMENT, () -> desk.least(0, 0, -1001, 0));
    }

    private void indexTwelveAndAbove() {
        // The rays (3, -2) and (3, 2) have the INDEX 12.
        basisIs("INDEX 12", Checks.desk(2, new int[][] {{2, 3}, {2, -3}}),
                new int[][] {{1, 0}, {2, -1}, {2, 1}, {3, -2}, {3, 2}});
        // The rays (5, -1) and (3, 2) have the INDEX 13.
        isLarge("INDEX 13", Checks.desk(2, new int[][] {{1, 5}, {2, -3}}));
        isLarge("INDEX 40", Checks.desk(2, new int[][] {{4, 5}, {4, -5}}));
    }

    // Any SIZE independent rays count: the cube's corners by turns have the INDEX 16, though the
    // cube can be cut into simplices of INDEX 8 alone.
    private void indexBesideTheCutting() {
        isLarge("great cube", Checks.desk(4, new int[][] {
            {1, 0, 0, 1}, {-1, 0, 0, 1}, {0, 1, 0, 1}, {0, -1, 0, 1}, {0, 0, 1, 1}, {0, 0, -1, 1}
        }));
    }

    private void nineRays() {
        int[][] cube = {
            {1, 0, 0, 0}, {-1, 0, 0, 1}, {0, 1, 0, 0}, {0, -1, 0, 1}, {0, 0, 1, 0}, {0, 0, -1, 1}
        };
        ConeDesk desk = Checks.desk(4, cube);
        int[][] corners = {
            {0, 0, 0, 1}, {0, 0, 1, 1}, {0, 1, 0, 1}, {0, 1, 1, 1},
            {1, 0, 0, 1}, {1, 0, 1, 1}, {1, 1, 0, 1}, {1, 1, 1, 1}
        };
        basisIs("cube", desk, corners);
        // The row cuts one corner off, and goes through one of the corners beside it.
        desk.add(1, 2, 2, -1);
        checks.same("cut cube: rays()", desk.rays(), 9);
        isLarge("cut cube", desk);
        desk.drop(6);
        basisIs("cube again", desk, corners);
    }

    private void partsOfPoints() {
        ConeDesk desk = Checks.desk(4, new int[][] {{1, 0, 0, 0}, {0, 1, 0, 0}, {0, 0, 1, 0}, {0, 0, 0, 1}});
        checks.same("parts(0, 0, 0, 0)", desk.parts(0, 0, 0, 0), 0);
        checks.same("parts(1, 2, 3, 4)", desk.parts(1, 2, 3, 4), 10);
        checks.same("parts(100, 100, 100, 100)", desk.parts(100, 100, 100, 100), 400);
        checks.same("parts(-1, 2, 3, 4)", desk.parts(-1, 2, 3, 4), -1);
        for (int i = 0; i < 4; i++) {
            for (int value : new int[] {LOW, -101, 101, HIGH}) {
                int[] point = {1, 1, 1, 1};
                point[i] = value;
                checks.same("parts, coordinate " + i + " is " + value,
                        desk.parts(point[0], point[1], point[2], point[3]), -1);
            }
        }
        ConeDesk flat = Checks.desk(2, new int[][] {{1, 0}, {0, -1}});
        checks.same("parts(100, -100, HIGH, LOW)", flat.parts(100, -100, HIGH, LOW), 200);
        checks.same("parts(1, -101, 0, 0)", flat.parts(1, -101, 0, 0), -1);
    }

    private void partsTakeTheGreatestFirst() {
        // The half sum (1, 1, 1) is greater than the rays, its negative less than theirs: so it
        // is taken twice here, and three rays are taken there.
        ConeDesk up = Checks.desk(3, new int[][] {{-1, 1, 1}, {1, -1, 1}, {1, 1, -1}});
        checks.same("up: parts(2, 2, 2)", up.parts(2, 2, 2, 0), 2);
        checks.same("up: parts(3, 3, 2)", up.parts(3, 3, 2, 0), 3);
        ConeDesk down = Checks.desk(3, new int[][] {{1, -1, -1}, {-1, 1, -1}, {-1, -1, 1}});
        checks.same("down: parts(-1, -1, -1)", down.parts(-1, -1, -1, 0), 1);
        checks.same("down: parts(-2, -2, -2)", down.parts(-2, -2, -2, 0), 3);
        checks.same("down: parts(-3, -3, -3)", down.parts(-3, -3, -3, 0), 4);
        // Between (1, 0) and (3, 5), with (1, 1) and (2, 3): (3, 4) is (2, 3) and (1, 1), and
        // (6, 7) is (3, 5), (1, 1) twice and (1, 0).
        ConeDesk plane = Checks.desk(2, new int[][] {{0, 1}, {5, -3}});
        checks.same("plane: parts(3, 4)", plane.parts(3, 4, 0, 0), 2);
        checks.same("plane: parts(6, 7)", plane.parts(6, 7, 0, 0), 4);
        checks.same("plane: parts(6, 10)", plane.parts(6, 10, 0, 0), 2);
    }

    private void leastProducts() {
        ConeDesk desk = Checks.desk(3, new int[][] {{-1, 1, 1}, {1, -1, 1}, {1, 1, -1}});
        checks.same("least(1, 1, 1)", desk.least(1, 1, 1, HIGH), 2);
        checks.same("least(-1, -1, -1)", desk.least(-1, -1, -1, LOW), -3);
        checks.same("least(1000, 1000, -1000)", desk.least(1000, 1000, -1000, 0), 0);
        checks.same("least(-1000, -1000, -1000)", desk.least(-1000, -1000, -1000, 0), -3000);
        checks.same("least(0, 0, 0)", desk.least(0, 0, 0, 5), 0);
        for (int i = 0; i < 3; i++) {
            for (int value : new int[] {LOW, -1001, 1001, HIGH}) {
                int[] point = {1, 1, 1};
                point[i] = value;
                checks.fails("least, coordinate " + i + " is " + value, Checks.ARGUMENT,
                        () -> desk.least(point[0], point[1], point[2], 0));
            }
        }
        checks.same("least, all positive", desk.least(3, 4, 5, 0), 7);
    }
}
