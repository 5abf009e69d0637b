/** Promises 7 and 8: same and renamed. */
public final class CompareTest {
    private static final Checks checks = new Checks();

    public static void main(String[] args) {
        sameLooksAtWhatTheyAreMadeOf();
        renamedPutsFreeOnesForFreeOnes();
        renamedPutsNothingElse();
        renamedSeesJoinedOnes();
        wrongOnesAreRefused();
        checks.finish();
    }

    private static void sameLooksAtWhatTheyAreMadeOf() {
        TypeBench bench = new TypeBench();
        int f = bench.free();
        int g = bench.free();
        checks.due("ONE and itself", true, bench.same(0, 0));
        checks.due("a free one and itself", true, bench.same(f, f));
        checks.due("two free ones", false, bench.same(f, g));
        checks.due("free and ONE", false, bench.same(f, 0));
        int sum = bench.sum(f, g);
        checks.due("sum twice", true, bench.same(sum, bench.sum(f, g)));
        checks.due("sum turned round", false, bench.same(sum, bench.sum(g, f)));
        checks.due("sum and pair", false, bench.same(sum, bench.pair(f, g)));
        checks.due("deep", true, bench.same(bench.pair(sum, 0), bench.pair(bench.sum(f, g), 0)));
        bench.join(f, g);
        checks.due("joined free ones", true, bench.same(f, g));
        checks.due("sum turned round after join", true, bench.same(sum, bench.sum(g, f)));
        checks.due("sum and pair after join", false, bench.same(sum, bench.pair(f, g)));
    }

    private static void bothWays(String what, boolean want, TypeBench bench, int a, int b) {
        String before = Checks.stateOf(bench);
        checks.due("renamed: " + what, want, bench.renamed(a, b));
        checks.due("renamed: " + what + ", back", want, bench.renamed(b, a));
        checks.due("renamed: " + what + ", state", before, Checks.stateOf(bench));
    }

    private static void renamedPutsFreeOnesForFreeOnes() {
        TypeBench bench = new TypeBench();
        int f = bench.free();
        int g = bench.free();
        int h = bench.free();
        bothWays("ONE", true, bench, 0, 0);
        bothWays("one free one", true, bench, f, f);
        bothWays("two free ones", true, bench, f, g);
        bothWays("exchanged", true, bench, bench.pair(f, g), bench.pair(g, f));
        bothWays("moved on", true, bench, bench.sum(f, g), bench.sum(g, h));
        bothWays("two for one", false, bench, bench.pair(f, f), bench.pair(f, g));
        bothWays("deep", true, bench,
                bench.sum(bench.pair(f, g), f), bench.sum(bench.pair(h, f), h));
        bothWays("deep, not the same for the same", false, bench,
                bench.sum(bench.pair(f, g), f), bench.sum(bench.pair(h, f), f));
        bothWays("three in a ring", true, bench,
                bench.pair(bench.pair(f, g), h), bench.pair(bench.pair(g, h), f));
    }

    private static void renamedPutsNothingElse() {
        TypeBench bench = new TypeBench();
        int f = bench.free();
        int sum = bench.sum(f, 0);
        bothWays("free and ONE", false, bench, f, 0);
        bothWays("free and sum", false, bench, f, sum);
        bothWays("sum and pair", false, bench, sum, bench.pair(f, 0));
        bothWays("free and ONE inside", false, bench, bench.sum(f, f), sum);
        bothWays("turned round", false, bench, sum, bench.sum(0, f));
        bothWays("not so deep", false, bench, bench.sum(sum, 0), bench.sum(f, 0));
    }

    private static void renamedSeesJoinedOnes() {
        TypeBench bench = new TypeBench();
        int f = bench.free();
        int g = bench.free();
        int h = bench.free();
        int left = bench.pair(f, g);
        int right = bench.pair(h, h);
        bothWays("before join", false, bench, left, right);
        bench.join(f, g);
        bothWays("after join", true, bench, left, right);
        bench.join(h, 0);
        bothWays("after join with ONE", false, bench, left, right);
        bench.join(g, h);
        bothWays("no free ones any more", true, bench, left, right);
    }

    private static void wrongOnesAreRefused() {
        TypeBench bench = new TypeBench();
        bench.free();
        int[] wrongOnes = {-1, 2, 1000, Integer.MIN_VALUE, Integer.MAX_VALUE};
        String before = Checks.stateOf(bench);
        for (int w : wrongOnes) {
            checks.dueThrow("same(" + w + ", 0)", Checks.NO_SUCH, () -> bench.same(w, 0));
            checks.dueThrow("same(0, " + w + ")", Checks.NO_SUCH, () -> bench.same(0, w));
            checks.dueThrow("same(w, w)", Checks.NO_SUCH, () -> bench.same(w, w));
            checks.dueThrow("renamed(" + w + ", 0)", Checks.NO_SUCH, () -> bench.renamed(w, 0));
            checks.dueThrow("renamed(0, " + w + ")", Checks.NO_SUCH, () -> bench.renamed(0, w));
            checks.dueThrow("renamed(w, w)", Checks.NO_SUCH, () -> bench.renamed(w, w));
        }
        checks.due("state after wrong ones", before, Checks.stateOf(bench));
    }
}
