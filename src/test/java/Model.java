import java.util.ArrayList;
import java.util.Arrays;
import java.util.List;

/** The document's face with the Oracle's answers: what is refused, with what, and in which order. */
final class Model {
    private final int dimension;
    private final List<int[]> rows = new ArrayList<>();
    private Oracle known;

    Model(int dimension) {
        this.dimension = dimension < 2 ? 2 : dimension > 4 ? 4 : dimension;
    }

    public int add(int a, int b, int c, int d) {
        int[] row = counting(a, b, c, d);
        if (!isWithin(row, 5) || Arrays.equals(row, new int[dimension])) {
            throw new IllegalArgumentException();
        }
        if (rows.size() == 8) {
            throw new IllegalStateException();
        }
        rows.add(row);
        known = null;
        return rows.size() - 1;
    }

    public void drop(int row) {
        need(row, rows.size());
        rows.remove(row);
        known = null;
    }

    public int look(int what) {
        return what == 0 ? dimension
                : what == 1 ? rows.size()
                : what == 2 ? cone().rank
                : what == 3 ? dimension - cone().rank
                : -1;
    }

    public int row(int row, int i) {
        need(row, rows.size());
        need(i, dimension);
        return rows.get(row)[i];
    }

    public int rays() {
        return pointed().rays.size();
    }

    public int ray(int ray, int i) {
        List<int[]> rays = pointed().rays;
        need(ray, rays.size());
        need(i, dimension);
        return rays.get(ray)[i];
    }

    public int size() {
        return pointed().size;
    }

    public boolean bounds(int row) {
        Oracle cone = pointed();
        need(row, rows.size());
        return cone.bounds(row);
    }

    public int faces(int ofDimension) {
        return pointed().faces(ofDimension);
    }

    public int basis() {
        return pointed().large ? -1 : pointed().basis.size();
    }

    public int point(int point, int i) {
        List<int[]> basis = small().basis;
        need(point, basis.size());
        need(i, dimension);
        return basis.get(point)[i];
    }

    public boolean holds(int a, int b, int c, int d) {
        return cone().holds(counting(a, b, c, d));
    }

    public int parts(int a, int b, int c, int d) {
        return small().parts(counting(a, b, c, d));
    }

    public int least(int a, int b, int c, int d) {
        int[] with = counting(a, b, c, d);
        if (!isWithin(with, 1000)) {
            throw new IllegalArgumentException();
        }
        return Math.toIntExact(small().least(with));
    }

    private int[] counting(int a, int b, int c, int d) {
        return Arrays.copyOf(new int[] {a, b, c, d}, dimension);
    }

    private static boolean isWithin(int[] point, int reach) {
        return Arrays.stream(point).allMatch(coordinate -> -reach <= coordinate && coordinate <= reach);
    }

    private static void need(int which, int end) {
        if (which < 0 || which >= end) {
            throw new IndexOutOfBoundsException();
        }
    }

    Oracle cone() {
        if (known == null) {
            known = new Oracle(dimension, rows.toArray(new int[0][]));
        }
        return known;
    }

    private Oracle pointed() {
        if (!cone().pointed) {
            throw new IllegalStateException();
        }
        return cone();
    }

    private Oracle small() {
        if (pointed().large) {
            throw new IllegalStateException();
        }
        return cone();
    }
}
