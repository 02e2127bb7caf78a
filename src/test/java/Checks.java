import java.util.List;

/** Counts the answers that are not as due and prints each of them. */
final class Checks {
    static final int LOW = Integer.MIN_VALUE;
    static final int HIGH = Integer.MAX_VALUE;
    static final Class<IllegalArgumentException> ARGUMENT = IllegalArgumentException.class;
    static final Class<IllegalStateException> STATE = IllegalStateException.class;
    static final Class<IndexOutOfBoundsException> INDEX = IndexOutOfBoundsException.class;

    private static final long LONGEST_TEST_MILLIS = 300_000;
    private static final int MOST_LINES = 200;

    private String sentence = "";
    private int made;
    private int wrong;

    Checks() {
        Thread watch = new Thread(Checks::endWhatDoesNotEnd);
        watch.setDaemon(true);
        watch.start();
    }

    /** What the document says where the next checks look. */
    void about(String sentence) {
        this.sentence = sentence;
    }

    /** The least and the greatest int, and the numbers next to a range on both sides. */
    static int[] outside(int low, int high) {
        return new int[] {LOW, low - 1, high + 1, HIGH};
    }

    void same(String what, Object got, Object want) {
        made++;
        if (!got.equals(want)) {
            wrong++;
            if (wrong <= MOST_LINES) {
                System.out.println(sentence + ": " + what + " answered " + got + ", due is " + want);
            }
        }
    }

    void due(Object want, ConeDesk desk, String name, int... numbers) {
        Call call = new Call(name, numbers);
        same(call.toString(), call.on(desk), want.toString());
    }

    void throwsJust(Class<? extends RuntimeException> want, ConeDesk desk, String name, int... numbers) {
        due(Call.thrown(want), desk, name, numbers);
    }

    /** Everything that can be asked of an object has the answer that this cone has. */
    void allAsDue(String when, Cone cone, ConeDesk desk) {
        allAsDue(when, cone, desk, cone.questions());
    }

    void allAsDue(String when, Cone cone, ConeDesk desk, List<Cone.Question> questions) {
        for (Cone.Question question : questions) {
            String got = question.call().on(desk);
            if (got.equals(question.due())) {
                made++;
            } else {
                same(when + ", " + question.call() + " of " + cone, got, question.due());
            }
        }
    }

    /**
     * A call throws just this and changes nothing, whether the object was asked before, so that it
     * may have kept some answers, or is asked only then.
     */
    void refused(Class<? extends RuntimeException> want, Cone cone, String name, int... numbers) {
        unchangedBy(new Call(name, numbers), Call.thrown(want), cone);
    }

    void unchangedBy(Call call, String want, Cone cone) {
        if (cone.rows.length + 2 * cone.questions().size() + 1 > Cone.MOST_CALLS) {
            throw new AssertionError(cone + " takes too many questions");
        }
        String what = call + " of " + cone;
        ConeDesk cold = cone.desk();
        same(what, call.on(cold), want);
        allAsDue("after " + call, cone, cold);
        ConeDesk warm = cone.desk();
        allAsDue("before " + call, cone, warm);
        same(what + ", asked before", call.on(warm), want);
        allAsDue("after all was asked and " + call, cone, warm);
    }

    int wrong() {
        return wrong;
    }

    void end() {
        System.out.println(made + " checks, " + wrong + " wrong");
        if (wrong != 0 || made == 0) {
            System.exit(1);
        }
    }

    // A call that fails to end must fail its test too.
    private static void endWhatDoesNotEnd() {
        try {
            Thread.sleep(LONGEST_TEST_MILLIS);
        } catch (InterruptedException e) {
            return;
        }
        System.out.println("the test does not end");
        Runtime.getRuntime().halt(1);
    }
}
