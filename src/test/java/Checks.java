import java.util.NoSuchElementException;

/** Counts and prints what is not as due; each test ends by finish(). */
final class Checks {
    static final String NO_SUCH = NoSuchElementException.class.getSimpleName();
    static final String ILLEGAL_STATE = IllegalStateException.class.getSimpleName();

    private int checked = 0;
    private int wrong = 0;

    /** A call of the class under test. */
    interface Call {
        Object make();
    }

    void due(String call, Object want, Object got) {
        checked++;
        if (!want.equals(got)) {
            wrong++;
            System.out.println(call + " answered " + got + ", due is " + want);
        }
    }

    void dueThrow(String call, String want, Call made) {
        due(call, "throws." + want, answerOf(made));
    }

    /** The answer, or the name of the exception: so one comparison serves for both. */
    static Object answerOf(Call made) {
        try {
            return made.make();
        } catch (RuntimeException e) {
            return "throws." + e.getClass().getSimpleName();
        }
    }

    /** All that can be asked of an object, to see that a call changed nothing. */
    static String stateOf(TypeBench bench) {
        StringBuilder text = new StringBuilder();
        int types = bench.count(0);
        text.append(types).append(' ').append(bench.count(1)).append(' ').append(bench.count(2));
        for (int a = 0; a < types; a++) {
            int number = a;
            text.append('\n').append(a).append(": ").append(bench.kind(a));
            text.append(' ').append(answerOf(() -> bench.part(number, false)));
            text.append(' ').append(answerOf(() -> bench.part(number, true)));
            text.append(' ').append(bench.size(a)).append(' ').append(bench.values(a));
            text.append(' ').append(bench.frees(a)).append(' ');
            for (int b = 0; b < types; b++) {
                text.append(bench.same(a, b) ? '=' : '.');
            }
        }
        return text.toString();
    }

    void finish() {
        System.out.println(checked + " checks, " + wrong + " wrong");
        if (wrong != 0 || checked == 0) {
            System.exit(1);
        }
    }
}
