import java.util.LinkedHashMap;
import java.util.Map;
import java.util.NoSuchElementException;

/** Counts and prints what is not as due; each test ends by finish(). */
final class Checks {
    static final String NO_SUCH = NoSuchElementException.class.getSimpleName();
    static final String ILLEGAL_STATE = IllegalStateException.class.getSimpleName();

    private int checked = 0;
    private int wrong = 0;

    /** A call of the class under test. */
    interface Call {
        Object make();
    }

    void due(String call, Object want, Object got) {
        checked++;
        if (!want.equals(got)) {
            wrong++;
            System.out.println(call + " answered " + got + ", due is " + want);
        }
    }

    void dueThrow(String call, String want, Call made) {
        due(call, "throws." + want, answerOf(made));
    }

    /** The answer, or the name of the exception: so one comparison serves for both. */
    static Object answerOf(Call made) {
        try {
            return made.make();
        } catch (RuntimeException e) {
            return "throws." + e.getClass().getSimpleName();
        }
    }

    /** All that can be asked of an object, to see that a call changed nothing. */
    static String stateOf(TypeBench bench) {
        StringBuilder text = new StringBuilder();
        int types = bench.count(0);
        text.append(types).append(' ').append(bench.count(1)).append(' ').append(bench.count(2));
        for (int a = 0; a < types; a++) {
            int number = a;
            text.append('\n').append(a).append(": ").append(bench.kind(a));
            text.append(' ').append(answerOf(() -> bench.part(number, false)));
            text.append(' ').append(answerOf(() -> bench.part(number, true)));
            text.append(' ').append(bench.size(a)).append(' ').append(bench.values(a));
            text.append(' ').append(bench.frees(a)).append(' ');
            for (int b = 0; b < types; b++) {
                text.append(bench.same(a, b) ? '=' : '.');
            }
        }
        return text.toString();
    }

    /** Every call that takes a type, with the given number in each of its places. */
    static Map<String, Call> callsWith(TypeBench bench, int a) {
        Map<String, Call> calls = new LinkedHashMap<>();
        int[][] places = {{a, 0}, {0, a}, {a, a}};
        for (int[] p : places) {
            String both = "(" + p[0] + ", " + p[1] + ")";
            calls.put("sum" + both, () -> bench.sum(p[0], p[1]));
            calls.put("pair" + both, () -> bench.pair(p[0], p[1]));
            calls.put("join" + both, () -> bench.join(p[0], p[1]));
            calls.put("alike" + both, () -> bench.alike(p[0], p[1]));
            calls.put("same" + both, () -> bench.same(p[0], p[1]));
            calls.put("renamed" + both, () -> bench.renamed(p[0], p[1]));
        }
        calls.put("kind(" + a + ")", () -> bench.kind(a));
        calls.put("part(" + a + ", false)", () -> bench.part(a, false));
        calls.put("part(" + a + ", true)", () -> bench.part(a, true));
        calls.put("size(" + a + ")", () -> bench.size(a));
        calls.put("values(" + a + ")", () -> bench.values(a));
        calls.put("frees(" + a + ")", () -> bench.frees(a));
        return calls;
    }

    /** The answer is as due, and all that can be asked is as it was before. */
    void dueUnchanged(String call, Object want, TypeBench bench, Call made) {
        String before = stateOf(bench);
        due(call, want, answerOf(made));
        due("state after " + call, before, stateOf(bench));
    }

    /** Both orders of the two are refused by alike and by join, and nothing changes. */
    void dueRefused(String what, TypeBench bench, int a, int b) {
        String both = what + ": " + a + ", " + b;
        dueUnchanged("alike of " + both, false, bench, () -> bench.alike(a, b));
        dueUnchanged("alike back of " + both, false, bench, () -> bench.alike(b, a));
        dueUnchanged("join of " + both, false, bench, () -> bench.join(a, b));
        dueUnchanged("join back of " + both, false, bench, () -> bench.join(b, a));
    }

    /** The two are joined, as alike has told before, and are the same from now on. */
    void dueJoined(String what, TypeBench bench, int a, int b) {
        String both = what + ": " + a + ", " + b;
        dueUnchanged("alike of " + both, true, bench, () -> bench.alike(a, b));
        dueUnchanged("alike back of " + both, true, bench, () -> bench.alike(b, a));
        due("join of " + both, true, bench.join(a, b));
        due("same of " + both, true, bench.same(a, b));
        dueUnchanged("join again of " + both, true, bench, () -> bench.join(b, a));
    }

    void dueCounts(String when, TypeBench bench, int types, int different, int frees) {
        due("count(0) " + when, types, bench.count(0));
        due("count(1) " + when, different, bench.count(1));
        due("count(2) " + when, frees, bench.count(2));
    }

    void finish() {
        System.out.println(checked + " checks, " + wrong + " wrong");
        if (wrong != 0 || checked == 0) {
            System.exit(1);
        }
    }
}
