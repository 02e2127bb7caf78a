import java.util.Random;

/** "An object is used for at most 512 calls", and rule 7 of LANGUAGE.md: no call throws by itself. */
public final class RunTest {
    private static final int[] NUMBERS = {
        Checks.LOW, Checks.LOW + 1, -(1 << 30), -65536, -1001, -1000, -101, -100, -9, -8, -6, -5, -4, -3, -2, -1,
        0, 1, 2, 3, 4, 5, 6, 7, 8, 9, 12, 13, 100, 101, 1000, 1001, 65536, 1 << 30, Checks.HIGH - 1, Checks.HIGH
    };
    private static final String[] NAMES = {
        "add", "drop", "look", "row", "rays", "ray", "size",
        "bounds", "faces", "basis", "point", "holds", "parts", "least"
    };
    private static final int[] ARGUMENTS = {4, 1, 1, 2, 0, 2, 0, 1, 1, 0, 2, 4, 4, 4};
    private static final String DUE_CLASSES =
            " throws.IllegalArgumentException throws.IllegalStateException throws.IndexOutOfBoundsException ";

    private final Checks checks = new Checks();
    private final Random random = new Random(512);

    public static void main(String[] args) {
        RunTest test = new RunTest();
        test.anyCalls();
        test.manyChanges();
        test.changesAlone();
        test.questionsAlone();
        test.anyNumbersInAnyState();
        test.laterCalls();
        test.checks.end();
    }

    private void oneCall(Call call, ConeDesk desk, Model model, int number) {
        checks.same("call " + number + ", " + call, call.on(desk), call.on(model));
    }

    private int number(int reach) {
        return random.nextInt(12) == 0
                ? NUMBERS[random.nextInt(NUMBERS.length)]
                : random.nextInt(2 * reach + 1) - reach;
    }

    private Call anyCall(int kind) {
        int[] numbers = new int[ARGUMENTS[kind]];
        int reach = kind == 0 ? 2 : kind == 13 ? 1000 : kind > 10 ? 8 : 5;
        for (int k = 0; k < numbers.length; k++) {
            int one = number(reach);
            // What counts from 0 on is asked for mostly where it may be.
            numbers[k] = numbers.length < 3 && -5 <= one && one < 0 && random.nextInt(4) != 0 ? -one : one;
        }
        return new Call(NAMES[kind], numbers);
    }

    private void anyCalls() {
        checks.about("at most 512 calls: any calls");
        for (int run = 0; run < 90; run++) {
            ConeDesk desk = new ConeDesk(2 + run % 3);
            Model model = new Model(2 + run % 3);
            for (int number = 1; number <= Cone.MOST_CALLS; number++) {
                int kind = random.nextInt(NAMES.length);
                // Rows are few at first, and then they come and go in turns.
                boolean change = number < 12 || random.nextInt(20) == 0;
                kind = change ? (random.nextInt(5) < 3 ? 0 : 1) : Math.max(kind, 2);
                oneCall(anyCall(number < 9 ? 0 : kind), desk, model, number);
            }
        }
    }

    // What was kept of an earlier cone must not show: one question after each change.
    private void manyChanges() {
        checks.about("at most 512 calls: a change, a question, a change, ..");
        for (int run = 0; run < 24; run++) {
            ConeDesk desk = new ConeDesk(2 + run % 3);
            Model model = new Model(2 + run % 3);
            for (int number = 1; number <= Cone.MOST_CALLS; number++) {
                int rows = model.look(1);
                if (number % 2 == 0) {
                    oneCall(anyCall(2 + random.nextInt(NAMES.length - 2)), desk, model, number);
                } else if (rows == 8 || rows > 3 && random.nextBoolean()) {
                    oneCall(new Call("drop", random.nextInt(rows)), desk, model, number);
                } else {
                    oneCall(anyCall(0), desk, model, number);
                }
            }
        }
    }

    private void changesAlone() {
        checks.about("at most 512 calls: rows added and dropped, with one question at the end");
        for (Cone cone : Cones.all()) {
            ConeDesk desk = new ConeDesk(cone.dimension);
            int changes = Cone.MOST_CALLS - cone.rows.length - cone.questions().size();
            for (int number = 0; number + 1 < changes; number += 2) {
                checks.due(0, desk, "add", 1, -1, 0, number % 6);
                checks.due("done", desk, "drop", 0);
            }
            for (int row = 0; row < cone.rows.length; row++) {
                checks.due(row, desk, "add", Cone.four(cone.rows[row]));
            }
            checks.allAsDue("after many changes", cone, desk);
        }
    }

    private void questionsAlone() {
        checks.about("at most 512 calls: the same questions again and again");
        for (Cone cone : Cones.all()) {
            ConeDesk desk = cone.desk();
            int calls = cone.rows.length;
            while (calls + cone.questions().size() <= Cone.MOST_CALLS) {
                checks.allAsDue("after " + calls + " calls", cone, desk);
                calls += cone.questions().size();
            }
        }
    }

    private void anyNumbersInAnyState() {
        checks.about("no call may ever throw by itself, for any arguments in any state");
        for (Cone cone : Cones.all()) {
            for (int kind = 1; kind < NAMES.length; kind++) {
                ConeDesk desk = cone.desk();
                Model model = cone.model();
                for (int number = cone.rows.length; number < Cone.MOST_CALLS && ARGUMENTS[kind] > 0; number++) {
                    int[] numbers = new int[ARGUMENTS[kind]];
                    for (int k = 0; k < numbers.length; k++) {
                        // One number goes through the whole list, with others from anywhere in it.
                        int place = k == number % numbers.length ? number : random.nextInt(NUMBERS.length);
                        numbers[k] = NUMBERS[place % NUMBERS.length];
                    }
                    oneCall(new Call(NAMES[kind], numbers), desk, model, number);
                }
            }
        }
    }

    // What these answer is free, but they end, and throw nothing by themselves.
    private void laterCalls() {
        checks.about("what later calls answer is free");
        for (int dimension = 2; dimension <= 4; dimension++) {
            ConeDesk desk = new ConeDesk(dimension);
            for (int number = 1; number <= 20 * Cone.MOST_CALLS; number++) {
                Call call = anyCall(random.nextInt(NAMES.length));
                String got = call.on(desk);
                boolean due = !Call.isThrown(got) || DUE_CLASSES.contains(" " + got + " ");
                checks.same("call " + number + ", " + call + " answered " + got + ": ends as it may", due, true);
            }
        }
    }
}
