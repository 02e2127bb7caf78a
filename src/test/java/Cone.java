import java.util.ArrayList;
import java.util.Arrays;
import java.util.List;

/** The rows of a cone, objects that hold them, and all that can be asked of those. */
final class Cone {
    /** What an object answers after so many calls is free. */
    static final int MOST_CALLS = 512;

    final int dimension;
    final int[][] rows;
    private Model asked;
    private List<Question> questions;

    /** A call and the answer that is due. */
    record Question(Call call, String due) {
    }

    Cone(int dimension, int[]... rows) {
        this.dimension = dimension;
        this.rows = rows;
    }

    Cone with(int... row) {
        int[][] more = Arrays.copyOf(rows, rows.length + 1);
        more[rows.length] = row;
        return new Cone(dimension, more);
    }

    Cone without(int row) {
        List<int[]> left = new ArrayList<>(Arrays.asList(rows));
        left.remove(row);
        return new Cone(dimension, left.toArray(new int[0][]));
    }

    /** Numbers beyond the dimension are 77, as nothing of them counts. */
    ConeDesk desk() {
        ConeDesk desk = new ConeDesk(dimension);
        for (int[] row : rows) {
            int[] four = four(row);
            desk.add(four[0], four[1], four[2], four[3]);
        }
        return desk;
    }

    Model model() {
        Model model = new Model(dimension);
        for (int[] row : rows) {
            int[] four = four(row);
            model.add(four[0], four[1], four[2], four[3]);
        }
        return model;
    }

    static int[] four(int[] point) {
        int[] four = {77, 77, 77, 77};
        System.arraycopy(point, 0, four, 0, point.length);
        return four;
    }

    /** What the document says of this cone. */
    Oracle oracle() {
        return asked().cone();
    }

    /** A call that changes nothing, with the answer that is due. */
    Question question(Call call) {
        return new Question(call, call.on(asked()));
    }

    private Model asked() {
        if (asked == null) {
            asked = model();
        }
        return asked;
    }

    /** All that can be asked, with the answers that are due. */
    List<Question> questions() {
        if (questions == null) {
            questions = new ArrayList<>();
            for (Call call : calls()) {
                questions.add(question(call));
            }
        }
        return questions;
    }

    private List<Call> calls() {
        List<Call> calls = new ArrayList<>();
        for (int what = -1; what <= 4; what++) {
            calls.add(new Call("look", what));
        }
        addCoordinates(calls, "row", rows.length);
        for (int row = -1; row <= rows.length; row++) {
            calls.add(new Call("bounds", row));
        }
        for (int ofDimension = -1; ofDimension <= dimension + 1; ofDimension++) {
            calls.add(new Call("faces", ofDimension));
        }
        calls.add(new Call("rays"));
        calls.add(new Call("size"));
        calls.add(new Call("basis"));
        addCoordinates(calls, "ray", countOf("rays"));
        addCoordinates(calls, "point", countOf("basis"));
        for (int[] point : examples()) {
            calls.add(new Call("holds", point));
            calls.add(new Call("parts", point));
            calls.add(new Call("least", point));
        }
        return calls;
    }

    private void addCoordinates(List<Call> calls, String name, int count) {
        for (int which = 0; which <= count; which++) {
            for (int i = 0; i < dimension && (i == 0 || which < count); i++) {
                calls.add(new Call(name, which, i));
            }
        }
        calls.add(new Call(name, -1, 0));
        calls.add(new Call(name, 0, -1));
        calls.add(new Call(name, 0, dimension));
    }

    private int countOf(String name) {
        String answer = new Call(name).on(asked());
        return Call.isThrown(answer) ? 0 : Math.max(0, Integer.parseInt(answer));
    }

    /** Points within and without; the sum of all rays is within, if there are rays to be asked for. */
    private List<int[]> examples() {
        int[] sum = new int[4];
        for (int[] ray : oracle().rays) {
            for (int i = 0; i < dimension; i++) {
                sum[i] += ray[i];
            }
        }
        return List.of(sum, new int[] {-sum[0], -sum[1], -sum[2], -sum[3]},
                new int[] {0, 0, 77, 0}, new int[] {1, 0, 0, 0}, new int[] {0, -1, 0, 0}, new int[] {3, 2, 1, 1},
                new int[] {-7, 100, 100, -5}, new int[] {101, 1, 0, 1001});
    }

    @Override
    public String toString() {
        return "the cone of " + Arrays.deepToString(rows) + " in dimension " + dimension;
    }
}
