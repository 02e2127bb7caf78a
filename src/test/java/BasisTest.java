/** Promise 11. */
public final class BasisTest {
    private final Checks checks = new Checks();

    public static void main(String[] args) {
        BasisTest test = new BasisTest();
        test.howManyPoints();
        test.noPoints();
        test.eightRaysAndMore();
        test.indexTwelveAndThirteen();
        test.everyIndexInThePlane();
        test.indexOfEveryChoice();
        test.indexIsTheCommonDivisor();
        test.becomesLargeAndSmallAgain();
        test.notPointed();
        test.checks.end();
    }

    private void basisIs(int due, Cone cone) {
        checks.due(due, cone.desk(), "basis");
        checks.allAsDue("with " + due + " points", cone, cone.desk());
    }

    private void howManyPoints() {
        checks.about("how many points BASIS has");
        for (int k = 0; k < 3; k++) {
            basisIs(1, Cones.HALF_LINE[k]);
            basisIs(k + 2, Cones.ORTHANT[k]);
            basisIs(k + 2, Cones.NEGATIVE_ORTHANT[k]);
        }
        // (-1, 3), (0, 1), (1, 1), (2, 1).
        basisIs(4, new Cone(2, new int[][] {{3, 1}, {-1, 2}}));
        // Three rays of INDEX 2, with their half sum between them.
        basisIs(4, new Cone(3, new int[][] {{-1, 1, 1}, {1, -1, 1}, {1, 1, -1}}));
        // The many points of a long edge, and more of them behind a wide side.
        basisIs(11, new Cone(2, new int[][] {{-1, 5}, {1, 5}}));
        basisIs(23, new Cone(3, new int[][] {{-3, 3, -3}, {-4, -2, 2}, {2, 0, 3}, {-3, 0, -4}}));
        basisIs(30, new Cone(4, new int[][] {
            {-5, 0, 3, -1}, {4, 4, -5, -2}, {5, -5, 3, 2}, {-2, -1, -2, 4}, {2, 3, -5, 0}
        }));
        basisIs(6, Cones.LONG_POINTS);
    }

    private void noPoints() {
        checks.about("BASIS is empty where there is nothing but 0");
        for (Cone cone : Cones.ZERO) {
            basisIs(0, cone);
        }
    }

    private void eightRaysAndMore() {
        checks.about("-1 if the cone is LARGE: more than 8 rays");
        checks.due(8, Cones.OCTAGON.desk(), "rays");
        basisIs(12, Cones.OCTAGON);
        basisIs(8, Cones.CUBE);
        checks.due(8, Cones.EIGHT_RAYS_INDEX_TWELVE.desk(), "rays");
        basisIs(11, Cones.EIGHT_RAYS_INDEX_TWELVE);
        for (int k = 0; k < Cones.MANY_RAYS.length; k++) {
            checks.due(9 + k, Cones.MANY_RAYS[k].desk(), "rays");
            basisIs(-1, Cones.MANY_RAYS[k]);
        }
    }

    private void indexTwelveAndThirteen() {
        checks.about("-1 if the cone is LARGE: an INDEX above 12");
        int[] due = {5, 5, 5, 10, 9, 9, 7, 9};
        for (int k = 0; k < due.length; k++) {
            basisIs(due[k], Cones.INDEX_TWELVE[k]);
        }
        for (Cone cone : Cones.INDEX_THIRTEEN) {
            basisIs(-1, cone);
        }
        // The rays (4, -5) and (4, 5), and four rays of an INDEX in the thousands.
        basisIs(-1, new Cone(2, new int[][] {{5, 4}, {5, -4}}));
        basisIs(-1, new Cone(4, new int[][] {{4, -5, -5, -5}, {-5, 5, -5, -4}, {-5, 4, 5, -5}, {0, 0, 0, 1}}));
    }

    // Two rows of the plane without common divisors have the determinant that their rays have.
    private void everyIndexInThePlane() {
        checks.about("an INDEX above 12, for all pairs of rows in the plane");
        for (int code = 0; code < 11 * 11 * 11 * 11; code++) {
            int a = code % 11 - 5;
            int b = code / 11 % 11 - 5;
            int c = code / 121 % 11 - 5;
            int d = code / 1331 - 5;
            if (a * d - b * c != 0) {
                ConeDesk desk = new Cone(2, new int[][] {{a, b}, {c, d}}).desk();
                int index = Math.abs(a * d - b * c) / divisor(a, b) / divisor(c, d);
                boolean large = desk.basis() == -1;
                checks.same("basis() is -1 of (" + a + ", " + b + "), (" + c + ", " + d + ")", large, index > 12);
            }
        }
    }

    private static int divisor(int a, int b) {
        return b == 0 ? Math.abs(a) : divisor(b, a % b);
    }

    private void indexOfEveryChoice() {
        checks.about("an INDEX above 12, of any SIZE rays that are linearly independent");
        basisIs(-1, Cones.GREAT_CUBE);
        // Of 70 choices of four of its eight rays, two have the INDEX 13, and none a greater one.
        checks.due(8, Cones.INDEX_THIRTEEN[8].desk(), "rays");
        basisIs(-1, Cones.INDEX_THIRTEEN[8]);
    }

    private void indexIsTheCommonDivisor() {
        checks.about("INDEX: the greatest common divisor of the determinants of all choices of coordinates");
        // SIZE 1: the determinants are the coordinates -495, -455, -36 and 95.
        basisIs(1, Cones.HALF_LINE[2]);
        // SIZE 2: (1, -2, 0, 4) and (7, 10, -12, 4) have 24, -12, -24, 24, -48 and 48.
        basisIs(5, Cones.INDEX_TWELVE[2]);
        // SIZE 2: (-1, -1, 0) and (5, 41, 45) have -36, -45 and -45.
        basisIs(4, new Cone(3, new int[][] {{-4, -5, 5}, {5, -5, 4}, {-1, 1, 0}, {-5, 5, -4}}));
        // SIZE 3: coordinates up to 164.
        basisIs(3, new Cone(4, new int[][] {
            {4, 5, 1, 3}, {-4, -1, 5, 2}, {0, -5, 2, 4}, {-3, -2, 1, -1}, {4, 1, -5, -2}
        }));
    }

    private void becomesLargeAndSmallAgain() {
        checks.about("LARGE by one row more, and not with one row less");
        // The row cuts one corner off the cube, and goes through one of the corners beside it.
        Cone cut = Cones.CUBE.with(1, 2, 2, -1);
        ConeDesk desk = Cones.CUBE.desk();
        checks.due(8, desk, "basis");
        desk.add(1, 2, 2, -1);
        checks.due(9, desk, "rays");
        checks.allAsDue("a corner cut off", cut, desk);
        desk.drop(6);
        checks.allAsDue("the cube again", Cones.CUBE, desk);
        // (3, -2) and (3, 2), then (5, -1) and (3, 2).
        ConeDesk plane = new Cone(2, new int[][] {{2, -3}, {2, 3}}).desk();
        checks.due(5, plane, "basis");
        plane.drop(1);
        plane.add(1, 5, 0, 0);
        checks.due(-1, plane, "basis");
        plane.add(1, 0, 0, 0);
        checks.due(-1, plane, "basis");
        plane.add(0, 1, 0, 0);
        checks.due(3, plane, "basis");
    }

    private void notPointed() {
        checks.about("IllegalStateException: not pointed");
        for (Cone cone : Cones.notPointed()) {
            checks.refused(Checks.STATE, cone, "basis");
        }
    }
}
