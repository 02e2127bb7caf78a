/** Promise 4. */
public final class LookTest {
    private final Checks checks = new Checks();

    public static void main(String[] args) {
        LookTest test = new LookTest();
        test.dimensionRowsRankAndLines();
        test.everyRank();
        test.anotherWhat();
        test.checks.end();
    }

    private void dimensionRowsRankAndLines() {
        checks.about("the dimension (what = 0), the rows (1), their rank (2), LINES (3)");
        ConeDesk desk = new ConeDesk(4);
        int[][] rows = {{1, 2, 3, 4}, {-1, -2, -3, -4}, {0, 1, 0, 0}, {1, 3, 3, 4}, {5, 5, 5, 5}, {0, 0, 0, 5}};
        int[] ranks = {0, 1, 1, 2, 2, 3, 4};
        for (int count = 0; count <= rows.length; count++) {
            looks(desk, 4, count, ranks[count]);
            if (count < rows.length) {
                checks.due(count, desk, "add", rows[count]);
            }
        }
        desk.drop(4);
        looks(desk, 4, 5, 3);
        desk.drop(0);
        looks(desk, 4, 4, 3);
        desk.drop(0);
        looks(desk, 4, 3, 3);
        desk.drop(0);
        looks(desk, 4, 2, 2);
    }

    private void looks(ConeDesk desk, int dimension, int rows, int rank) {
        checks.due(dimension, desk, "look", 0);
        checks.due(rows, desk, "look", 1);
        checks.due(rank, desk, "look", 2);
        checks.due(dimension - rank, desk, "look", 3);
    }

    // From no rows to eight: rows that are multiples or sums of others add nothing to the rank.
    private void everyRank() {
        checks.about("their rank: the greatest number of them that are linearly independent");
        for (int dimension = 2; dimension <= 4; dimension++) {
            for (int rank = 1; rank <= dimension; rank++) {
                ConeDesk desk = new ConeDesk(dimension);
                for (int count = 1; count <= 8; count++) {
                    int[] row = {1, 0, 0, 0};
                    for (int i = 1; i < rank; i++) {
                        row[i] = (count >> i) % 2 + (count % rank == i ? 2 : 0);
                    }
                    desk.add(row[0], row[1], row[2], row[3]);
                }
                looks(desk, dimension, 8, rank);
            }
        }
        looks(new Cone(2, new int[][] {{5, -5}, {-5, 5}, {-1, 1}}).desk(), 2, 3, 1);
        looks(new Cone(3, new int[][] {{5, 4, 3}, {4, 5, 3}, {1, -1, 0}, {-5, 5, 0}}).desk(), 3, 4, 2);
        looks(new Cone(3, new int[][] {{5, 5, 5}, {5, 5, 4}, {5, 4, 5}}).desk(), 3, 3, 3);
        looks(new Cone(4, new int[][] {{5, 5, -5, -5}, {5, -5, 5, -5}, {5, -5, -5, 5}, {5, 5, 5, 5}}).desk(), 4, 4, 4);
        looks(new Cone(4, new int[][] {{1, 2, 3, 4}, {2, 3, 4, 5}, {5, 4, 3, 2}, {1, 1, 1, 1}}).desk(), 4, 4, 2);
    }

    private void anotherWhat() {
        checks.about("-1 for another what");
        for (Cone cone : Cones.all()) {
            ConeDesk desk = cone.desk();
            for (int what : Checks.outside(0, 3)) {
                checks.due(-1, desk, "look", what);
            }
            for (int what : new int[] {Checks.LOW + 1, -4, -3, -2, 5, 6, 7, 8, 256, 65536, Checks.HIGH - 1}) {
                checks.due(-1, desk, "look", what);
            }
            checks.allAsDue("after look", cone, desk);
        }
    }
}
