import java.util.ArrayList;
import java.util.Arrays;
import java.util.List;
import java.util.Set;
import java.util.TreeSet;

/**
 * "What is asked of a cone that is not pointed throws IllegalStateException where that is told;
 * nothing that throws changes anything."
 */
public final class RefusedTest {
    private static final int[] EDGES = {Checks.LOW, -1, 0, 1, 2, 3, 4, 5, 7, 8, 9, 12, 13, Checks.HIGH};
    private static final int[] REACHES = {0, 1, 5, 6, 100, 101, 1000, 1001, Checks.HIGH};

    // Every exception that the document tells, by call and in the order of these texts.
    private static final String[] REFUSALS = {
        "add throws.IllegalArgumentException", "add throws.IllegalStateException", "basis throws.IllegalStateException",
        "bounds throws.IllegalStateException", "bounds throws.IndexOutOfBoundsException",
        "drop throws.IndexOutOfBoundsException", "faces throws.IllegalStateException",
        "least throws.IllegalArgumentException", "least throws.IllegalStateException",
        "parts throws.IllegalStateException", "point throws.IllegalStateException",
        "point throws.IndexOutOfBoundsException", "ray throws.IllegalStateException",
        "ray throws.IndexOutOfBoundsException", "rays throws.IllegalStateException",
        "row throws.IndexOutOfBoundsException", "size throws.IllegalStateException"
    };

    private final Checks checks = new Checks();

    public static void main(String[] args) {
        RefusedTest test = new RefusedTest();
        test.whereThatIsToldAlone();
        test.nothingThatThrowsChangesAnything();
        test.manyRefusedCalls();
        test.checks.end();
    }

    private void whereThatIsToldAlone() {
        checks.about("not pointed throws IllegalStateException where that is told, and nowhere else");
        for (Cone cone : Cones.notPointed()) {
            ConeDesk desk = cone.desk();
            checks.due(cone.dimension, desk, "look", 0);
            checks.due(-1, desk, "look", 4);
            checks.due(true, desk, "holds", 0, 0, 0, 0);
            if (cone.rows.length > 0) {
                checks.due(cone.rows[0][0], desk, "row", 0, 0);
                checks.due("done", desk, "drop", 0);
            }
            checks.due(Math.max(0, cone.rows.length - 1), desk, "add", 1, 0, 0, 0);
        }
        for (Cone cone : Cones.large()) {
            ConeDesk desk = cone.desk();
            checks.due(cone.oracle().size, desk, "size");
            checks.due(cone.oracle().rays.size(), desk, "rays");
            checks.due(1, desk, "faces", 0);
            checks.due(-1, desk, "basis");
        }
    }

    // Every call with every kind of number, of every cone.
    private void nothingThatThrowsChangesAnything() {
        checks.about("nothing that throws changes anything");
        Set<String> seen = new TreeSet<>();
        for (Cone cone : Cones.all()) {
            Cone next = next(cone);
            for (Cone.Question refused : refusedBy(cone)) {
                seen.add(refused.call().name() + " " + refused.due());
                checks.unchangedBy(refused.call(), refused.due(), cone);
                goesOnAfter(refused.call(), cone, next);
            }
        }
        checks.same("what is refused", String.join(", ", seen), String.join(", ", REFUSALS));
    }

    private static Cone next(Cone cone) {
        Cone less = cone.rows.length > 0 ? cone.without(0) : cone;
        return less.with(Arrays.copyOf(new int[] {1, -1, 2, 0}, cone.dimension));
    }

    // The next changes too are those of an object that was never asked for what it refuses.
    private void goesOnAfter(Call refused, Cone cone, Cone next) {
        ConeDesk desk = cone.desk();
        refused.on(desk);
        if (cone.rows.length > 0) {
            checks.due("done", desk, "drop", 0);
        }
        int last = next.rows.length - 1;
        checks.due(last, desk, "add", Cone.four(next.rows[last]));
        checks.allAsDue("changed after " + refused, next, desk);
    }

    private static List<Cone.Question> refusedBy(Cone cone) {
        List<Cone.Question> refused = new ArrayList<>();
        for (Call call : calls()) {
            boolean change = call.name().equals("add") || call.name().equals("drop");
            String due = change ? call.on(cone.model()) : cone.question(call).due();
            if (Call.isThrown(due)) {
                refused.add(new Cone.Question(call, due));
            }
        }
        return refused;
    }

    private static List<Call> calls() {
        List<Call> calls = new ArrayList<>();
        for (String name : new String[] {"rays", "size", "basis"}) {
            calls.add(new Call(name));
        }
        for (int edge : EDGES) {
            for (String name : new String[] {"drop", "look", "bounds", "faces"}) {
                calls.add(new Call(name, edge));
            }
            for (String name : new String[] {"row", "ray", "point"}) {
                calls.add(new Call(name, edge, 0));
                calls.add(new Call(name, 0, edge));
            }
        }
        for (int reach : REACHES) {
            for (String name : new String[] {"add", "holds", "parts", "least"}) {
                calls.add(new Call(name, reach, 0, 0, 0));
                calls.add(new Call(name, 1, -reach, 1, 0));
                calls.add(new Call(name, 1, 0, reach, 1));
                calls.add(new Call(name, 0, 0, 0, -reach - 1));
            }
        }
        return calls;
    }

    // As many refused calls as there may be, and then the object is used as a new one.
    private void manyRefusedCalls() {
        checks.about("nothing that throws changes anything, however often");
        for (Cone cone : Cones.all()) {
            ConeDesk desk = cone.desk();
            int left = Cone.MOST_CALLS - cone.rows.length - cone.questions().size();
            List<Cone.Question> refused = refusedBy(cone);
            for (int turn = 0; turn < left; turn++) {
                Cone.Question one = refused.get(turn % refused.size());
                checks.same(one.call() + " of " + cone, one.call().on(desk), one.due());
            }
            checks.allAsDue("after many refused calls", cone, desk);
        }
    }
}
