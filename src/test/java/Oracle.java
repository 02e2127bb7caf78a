import java.math.BigInteger;
import java.util.ArrayList;
import java.util.Arrays;
import java.util.Comparator;
import java.util.HashSet;
import java.util.List;
import java.util.Set;
import java.util.TreeSet;

/**
 * What the document says of the cone between some rows, in its own words and without regard to
 * speed; nothing here is done the way ConeDesk does it, where another way is at hand.
 */
final class Oracle {
    private static final Comparator<int[]> ORDER = Arrays::compare;

    final int dimension;
    final int[][] rows;
    final int rank;
    final boolean pointed;
    final List<int[]> rays;
    final int size;
    final boolean large;
    final List<int[]> basis;

    Oracle(int dimension, int[][] rows) {
        this.dimension = dimension;
        this.rows = rows;
        rank = rankOf(Arrays.asList(rows), dimension);
        pointed = rank == dimension;
        rays = pointed ? findRays() : new ArrayList<>();
        size = rankOf(rays, dimension);
        large = pointed && isLarge();
        basis = pointed && !large ? findBasis() : new ArrayList<>();
    }

    static long product(int[] a, int[] b) {
        long sum = 0;
        for (int i = 0; i < a.length; i++) {
            sum += (long) a[i] * b[i];
        }
        return sum;
    }

    boolean holds(int[] point) {
        for (int[] row : rows) {
            if (product(row, point) < 0) {
                return false;
            }
        }
        return true;
    }

    /** The rays by their definition alone, looked for among all points within a reach. */
    List<int[]> raysWithin(int reach) {
        int[] low = new int[dimension];
        int[] high = new int[dimension];
        Arrays.fill(low, -reach);
        Arrays.fill(high, reach);
        List<int[]> found = new ArrayList<>();
        for (int[] point : conePointsWithin(low, high)) {
            if (divisorOf(point) == 1 && rankOf(tightAt(point), dimension) == dimension - 1) {
                found.add(point);
            }
        }
        return found;
    }

    /** How many points the box has in which basisInBox looks. */
    long boxVolume() {
        long volume = 1;
        for (int i = 0; i < dimension; i++) {
            volume *= boxEdge(i, 1) - boxEdge(i, -1) + 1;
        }
        return volume;
    }

    /**
     * The basis by its definition alone. Each point of it is a sum of less than one of each of
     * some rays, or a ray, so none lies outside the box.
     */
    List<int[]> basisInBox() {
        int[] low = new int[dimension];
        int[] high = new int[dimension];
        for (int i = 0; i < dimension; i++) {
            low[i] = boxEdge(i, -1);
            high[i] = boxEdge(i, 1);
        }
        List<int[]> points = conePointsWithin(low, high);
        points.sort(Comparator.comparingLong(this::heightOf));
        List<int[]> found = new ArrayList<>();
        for (int[] point : points) {
            boolean sum = false;
            for (int[] part : found) {
                sum = sum || holds(minus(point, part));
            }
            if (!sum) {
                found.add(point);
            }
        }
        found.sort(ORDER);
        return found;
    }

    int faces(int ofDimension) {
        Set<Set<Integer>> all = new HashSet<>();
        for (int chosen = 0; chosen < 1 << rows.length; chosen++) {
            Set<Integer> face = new TreeSet<>();
            for (int p = 0; p < rays.size(); p++) {
                boolean in = true;
                for (int r = 0; r < rows.length; r++) {
                    in = in && ((chosen >> r & 1) == 0 || product(rows[r], rays.get(p)) == 0);
                }
                if (in) {
                    face.add(p);
                }
            }
            all.add(face);
        }
        int count = 0;
        for (Set<Integer> face : all) {
            List<int[]> members = new ArrayList<>();
            for (int p : face) {
                members.add(rays.get(p));
            }
            if (rankOf(members, dimension) == ofDimension) {
                count++;
            }
        }
        return count;
    }

    boolean bounds(int row) {
        List<int[]> mine = raysTightFor(row);
        for (int r = 0; r < row; r++) {
            if (raysTightFor(r).equals(mine)) {
                return false;
            }
        }
        return rankOf(mine, dimension) == size - 1;
    }

    int parts(int[] point) {
        for (int coordinate : point) {
            if (coordinate < -100 || coordinate > 100) {
                return -1;
            }
        }
        if (!holds(point)) {
            return -1;
        }
        int count = 0;
        int[] rest = point;
        while (!isZero(rest)) {
            int[] greatest = null;
            for (int[] part : basis) {
                if (holds(minus(rest, part))) {
                    greatest = part;
                }
            }
            rest = minus(rest, greatest);
            count++;
        }
        return count;
    }

    long least(int[] point) {
        long least = basis.isEmpty() ? 0 : Long.MAX_VALUE;
        for (int[] part : basis) {
            least = Math.min(least, product(part, point));
        }
        return least;
    }

    static boolean same(List<int[]> a, List<int[]> b) {
        if (a.size() != b.size()) {
            return false;
        }
        for (int p = 0; p < a.size(); p++) {
            if (!Arrays.equals(a.get(p), b.get(p))) {
                return false;
            }
        }
        return true;
    }

    private List<int[]> findRays() {
        TreeSet<int[]> found = new TreeSet<>(ORDER);
        for (int chosen = 0; chosen < 1 << rows.length; chosen++) {
            if (Integer.bitCount(chosen) != dimension - 1) {
                continue;
            }
            List<int[]> some = new ArrayList<>();
            for (int r = 0; r < rows.length; r++) {
                if ((chosen >> r & 1) != 0) {
                    some.add(rows[r]);
                }
            }
            if (rankOf(some, dimension) == dimension - 1) {
                int[] direction = solve(some);
                if (holds(direction)) {
                    found.add(direction);
                }
                int[] opposite = minus(new int[dimension], direction);
                if (holds(opposite)) {
                    found.add(opposite);
                }
            }
        }
        return new ArrayList<>(found);
    }

    private boolean isLarge() {
        if (rays.size() > 8) {
            return true;
        }
        for (List<int[]> choice : choicesOfSize()) {
            if (indexOf(choice) > 12) {
                return true;
            }
        }
        return false;
    }

    private List<List<int[]>> choicesOfSize() {
        List<List<int[]>> choices = new ArrayList<>();
        for (int chosen = 0; chosen < 1 << rays.size(); chosen++) {
            if (Integer.bitCount(chosen) == size) {
                List<int[]> choice = new ArrayList<>();
                for (int p = 0; p < rays.size(); p++) {
                    if ((chosen >> p & 1) != 0) {
                        choice.add(rays.get(p));
                    }
                }
                if (rankOf(choice, dimension) == size) {
                    choices.add(choice);
                }
            }
        }
        return choices;
    }

    private long indexOf(List<int[]> choice) {
        BigInteger divisor = BigInteger.ZERO;
        for (int columns = 0; columns < 1 << dimension; columns++) {
            if (Integer.bitCount(columns) == choice.size()) {
                divisor = divisor.gcd(determinant(choice, columns, 0));
            }
        }
        return divisor.longValueExact();
    }

    private BigInteger determinant(List<int[]> points, int columns, int from) {
        if (from == points.size()) {
            return BigInteger.ONE;
        }
        BigInteger sum = BigInteger.ZERO;
        int sign = 1;
        for (int i = 0; i < dimension; i++) {
            if ((columns >> i & 1) != 0) {
                BigInteger part = determinant(points, columns & ~(1 << i), from + 1);
                sum = sum.add(part.multiply(BigInteger.valueOf((long) sign * points.get(from)[i])));
                sign = -sign;
            }
        }
        return sum;
    }

    // All choices of independent rays, not only those of one cutting of the cone, and all shares
    // of them, tried one by one.
    private List<int[]> findBasis() {
        TreeSet<int[]> candidates = new TreeSet<>(ORDER);
        candidates.addAll(rays);
        for (List<int[]> choice : choicesOfSize()) {
            addInner(choice, (int) indexOf(choice), candidates);
        }
        List<int[]> found = new ArrayList<>();
        for (int[] candidate : candidates) {
            boolean sum = false;
            for (int[] part : candidates) {
                sum = sum || part != candidate && holds(minus(candidate, part));
            }
            if (!sum) {
                found.add(candidate);
            }
        }
        return found;
    }

    private void addInner(List<int[]> choice, int index, TreeSet<int[]> candidates) {
        int end = 1;
        for (int m = 0; m < choice.size(); m++) {
            end *= index;
        }
        for (int code = 1; code < end; code++) {
            int[] sum = new int[dimension];
            int rest = code;
            for (int[] ray : choice) {
                for (int i = 0; i < dimension; i++) {
                    sum[i] += rest % index * ray[i];
                }
                rest /= index;
            }
            boolean whole = true;
            for (int i = 0; i < dimension; i++) {
                whole = whole && sum[i] % index == 0;
                sum[i] /= index;
            }
            if (whole) {
                candidates.add(sum);
            }
        }
    }

    private List<int[]> conePointsWithin(int[] low, int[] high) {
        List<int[]> found = new ArrayList<>();
        int[] point = low.clone();
        while (true) {
            if (!isZero(point) && holds(point)) {
                found.add(point.clone());
            }
            int i = dimension - 1;
            while (i >= 0 && point[i] == high[i]) {
                point[i] = low[i];
                i--;
            }
            if (i < 0) {
                return found;
            }
            point[i]++;
        }
    }

    private int boxEdge(int i, int sign) {
        int sum = 0;
        for (int[] ray : rays) {
            sum += Math.max(0, ray[i] * sign);
        }
        return sum * sign;
    }

    private long heightOf(int[] point) {
        long sum = 0;
        for (int[] row : rows) {
            sum += product(row, point);
        }
        return sum;
    }

    private List<int[]> tightAt(int[] point) {
        List<int[]> tight = new ArrayList<>();
        for (int[] row : rows) {
            if (product(row, point) == 0) {
                tight.add(row);
            }
        }
        return tight;
    }

    private List<int[]> raysTightFor(int row) {
        List<int[]> tight = new ArrayList<>();
        for (int[] ray : rays) {
            if (product(rows[row], ray) == 0) {
                tight.add(ray);
            }
        }
        return tight;
    }

    private static int[] minus(int[] a, int[] b) {
        int[] difference = new int[a.length];
        for (int i = 0; i < a.length; i++) {
            difference[i] = a[i] - b[i];
        }
        return difference;
    }

    private static boolean isZero(int[] point) {
        for (int coordinate : point) {
            if (coordinate != 0) {
                return false;
            }
        }
        return true;
    }

    private static int divisorOf(int[] point) {
        BigInteger divisor = BigInteger.ZERO;
        for (int coordinate : point) {
            divisor = divisor.gcd(BigInteger.valueOf(coordinate));
        }
        return divisor.intValueExact();
    }

    private static int rankOf(List<int[]> points, int dimension) {
        return pivotsOf(reduce(points, dimension)).size();
    }

    // Gauss and Jordan without fractions: each pivot's column is 0 in all other lines.
    private static BigInteger[][] reduce(List<int[]> points, int dimension) {
        BigInteger[][] lines = new BigInteger[points.size()][dimension];
        for (int p = 0; p < lines.length; p++) {
            for (int i = 0; i < dimension; i++) {
                lines[p][i] = BigInteger.valueOf(points.get(p)[i]);
            }
        }
        int done = 0;
        for (int i = 0; i < dimension && done < lines.length; i++) {
            int pivot = done;
            while (pivot < lines.length && lines[pivot][i].signum() == 0) {
                pivot++;
            }
            if (pivot == lines.length) {
                continue;
            }
            BigInteger[] line = lines[pivot];
            lines[pivot] = lines[done];
            lines[done] = line;
            for (int p = 0; p < lines.length; p++) {
                BigInteger factor = lines[p][i];
                for (int j = 0; j < dimension && p != done; j++) {
                    lines[p][j] = lines[p][j].multiply(line[i]).subtract(factor.multiply(line[j]));
                }
            }
            done++;
        }
        return Arrays.copyOf(lines, done);
    }

    private static List<Integer> pivotsOf(BigInteger[][] lines) {
        List<Integer> pivots = new ArrayList<>();
        for (BigInteger[] line : lines) {
            int i = 0;
            while (line[i].signum() == 0) {
                i++;
            }
            pivots.add(i);
        }
        return pivots;
    }

    // The shortest whole point on which lines of rank dimension - 1 have the product 0.
    private int[] solve(List<int[]> some) {
        BigInteger[][] lines = reduce(some, dimension);
        List<Integer> pivots = pivotsOf(lines);
        int free = 0;
        while (pivots.contains(free)) {
            free++;
        }
        BigInteger scale = BigInteger.ONE;
        for (int p = 0; p < lines.length; p++) {
            scale = scale.multiply(lines[p][pivots.get(p)]);
        }
        BigInteger[] point = new BigInteger[dimension];
        point[free] = scale;
        BigInteger divisor = scale;
        for (int p = 0; p < lines.length; p++) {
            int pivot = pivots.get(p);
            point[pivot] = scale.multiply(lines[p][free]).negate().divide(lines[p][pivot]);
            divisor = divisor.gcd(point[pivot]);
        }
        int[] whole = new int[dimension];
        for (int i = 0; i < dimension; i++) {
            whole[i] = point[i].divide(divisor).intValueExact();
        }
        return whole;
    }
}
