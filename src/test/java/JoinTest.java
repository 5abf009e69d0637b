/** Promises 5 and 6: join and alike. */
public final class JoinTest {
    private static final Checks checks = new Checks();

    public static void main(String[] args) {
        aFreeOneBecomesWhatItIsJoinedWith();
        freeOnesAreJoined();
        wholesAreJoinedByTheirParts();
        differentKindsAreNotJoined();
        aFailureInTheMiddleChangesNothing();
        aTypeNeverContainsItself();
        alikeChangesNothing();
        othersBecomeTheSameToo();
        typesThatAreNotThereAreRefused();
        longChainsAreJoined();
        checks.finish();
    }

    private static void refused(TypeBench bench, int a, int b) {
        checks.dueRefused("two", bench, a, b);
    }

    private static void joined(TypeBench bench, int a, int b) {
        checks.dueJoined("two", bench, a, b);
    }

    private static void aFreeOneBecomesWhatItIsJoinedWith() {
        TypeBench bench = new TypeBench();
        int f = bench.free();
        int holder = bench.pair(f, f);
        int target = bench.sum(0, 0);
        joined(bench, f, target);
        checks.due("kind of the free one", 2, bench.kind(f));
        checks.due("values of its holder", 4, bench.values(holder));
        int g = bench.free();
        joined(bench, 0, g);
        checks.due("kind of the one that became ONE", 1, bench.kind(g));
        joined(bench, 0, 0);
        checks.due("sum with it is the same", true, bench.same(bench.sum(g, 0), target));
    }

    private static void freeOnesAreJoined() {
        TypeBench bench = new TypeBench();
        for (int i = 0; i < 5; i++) {
            bench.free();
        }
        joined(bench, 1, 1);
        joined(bench, 5, 3);
        joined(bench, 2, 4);
        checks.due("same(3, 4)", false, bench.same(3, 4));
        joined(bench, 4, 5);
        checks.due("same(2, 3)", true, bench.same(2, 3));
        checks.due("count(2)", 2, bench.count(2));
        joined(bench, 3, bench.pair(1, 0));
        checks.due("kind(2)", 3, bench.kind(2));
        checks.due("kind(5)", 3, bench.kind(5));
        checks.due("kind(1)", 0, bench.kind(1));
    }

    private static void wholesAreJoinedByTheirParts() {
        TypeBench bench = new TypeBench();
        int f = bench.free();
        int g = bench.free();
        int two = bench.sum(0, 0);
        int left = bench.pair(f, bench.sum(g, 0));
        int right = bench.pair(two, bench.sum(f, g));
        refused(bench, left, right);
        int third = bench.pair(two, bench.sum(f, 0));
        joined(bench, left, third);
        checks.due("first free one", true, bench.same(f, two));
        checks.due("second free one", true, bench.same(g, two));
    }

    private static void differentKindsAreNotJoined() {
        TypeBench bench = new TypeBench();
        int f = bench.free();
        int sum = bench.sum(f, f);
        int pair = bench.pair(f, f);
        refused(bench, 0, sum);
        refused(bench, 0, pair);
        refused(bench, sum, pair);
        refused(bench, bench.sum(sum, 0), bench.sum(pair, 0));
        refused(bench, bench.pair(0, sum), bench.pair(0, 0));
    }

    private static void aFailureInTheMiddleChangesNothing() {
        TypeBench bench = new TypeBench();
        int f = bench.free();
        int g = bench.free();
        int two = bench.sum(0, 0);
        refused(bench, bench.pair(f, 0), bench.pair(two, two));
        refused(bench, bench.pair(0, f), bench.pair(two, two));
        refused(bench, bench.pair(bench.pair(f, g), f), bench.pair(bench.pair(g, two), 0));
        checks.due("first free one stays free", 0, bench.kind(f));
        checks.due("second free one stays free", 0, bench.kind(g));
        checks.due("they stay apart", false, bench.same(f, g));
    }

    private static void aTypeNeverContainsItself() {
        TypeBench bench = new TypeBench();
        int f = bench.free();
        int g = bench.free();
        int deep = bench.sum(0, bench.pair(0, bench.sum(f, 0)));
        refused(bench, f, deep);
        refused(bench, bench.pair(f, g), bench.pair(bench.sum(g, 0), bench.sum(f, 0)));
        refused(bench, bench.pair(f, f), bench.pair(g, bench.pair(g, g)));
        refused(bench, bench.pair(f, g), bench.pair(bench.sum(0, g), bench.sum(0, f)));
        joined(bench, g, deep);
        refused(bench, f, g);
        refused(bench, f, bench.pair(0, g));
        joined(bench, f, 0);
    }

    private static void alikeChangesNothing() {
        TypeBench bench = new TypeBench();
        int f = bench.free();
        int g = bench.free();
        int left = bench.pair(f, bench.sum(g, 0));
        int right = bench.pair(g, bench.sum(0, f));
        String before = Checks.stateOf(bench);
        checks.due("alike", true, bench.alike(left, right));
        checks.due("alike free ones", true, bench.alike(f, g));
        checks.due("alike free and ONE", true, bench.alike(0, f));
        checks.due("alike itself", true, bench.alike(left, left));
        checks.due("state after alike", before, Checks.stateOf(bench));
        checks.due("a new one after alike", right + 1, bench.free());
    }

    private static void othersBecomeTheSameToo() {
        TypeBench bench = new TypeBench();
        int f = bench.free();
        int g = bench.free();
        int onF = bench.sum(bench.pair(f, 0), f);
        int onG = bench.sum(bench.pair(g, 0), g);
        int onOne = bench.sum(bench.pair(0, 0), 0);
        checks.due("before", false, bench.same(onF, onG));
        joined(bench, f, g);
        checks.due("holders of joined free ones", true, bench.same(onF, onG));
        checks.due("but not this", false, bench.same(onF, onOne));
        joined(bench, g, 0);
        checks.due("all now", true, bench.same(onF, onOne));
        checks.due("different ones: ONE, the pair, the sum", 3, bench.count(1));
    }

    private static void typesThatAreNotThereAreRefused() {
        TypeBench bench = new TypeBench();
        bench.free();
        String before = Checks.stateOf(bench);
        int[] wrongOnes = {-1, 2, 1000, Integer.MIN_VALUE, Integer.MAX_VALUE};
        for (int w : wrongOnes) {
            checks.dueThrow("join(" + w + ", 1)", Checks.NO_SUCH, () -> bench.join(w, 1));
            checks.dueThrow("join(1, " + w + ")", Checks.NO_SUCH, () -> bench.join(1, w));
            checks.dueThrow("join(w, w)", Checks.NO_SUCH, () -> bench.join(w, w));
            checks.dueThrow("alike(" + w + ", 1)", Checks.NO_SUCH, () -> bench.alike(w, 1));
            checks.dueThrow("alike(1, " + w + ")", Checks.NO_SUCH, () -> bench.alike(1, w));
            checks.dueThrow("alike(w, w)", Checks.NO_SUCH, () -> bench.alike(w, w));
        }
        checks.due("state after wrong ones", before, Checks.stateOf(bench));
    }

    /** As long as 512 calls let them grow, and doubled at each step: a plain walk would not end. */
    private static void longChainsAreJoined() {
        TypeBench bench = new TypeBench();
        int f = bench.free();
        int g = bench.free();
        int left = f;
        int right = g;
        for (int i = 0; i < 250; i++) {
            left = bench.pair(left, left);
            right = bench.pair(right, right);
        }
        checks.due("long: renamed", true, bench.renamed(left, right));
        checks.due("long: same", false, bench.same(left, right));
        checks.due("long: alike, one level off", true, bench.alike(left, bench.part(right, true)));
        checks.due("long: into itself", false, bench.join(f, left));
        checks.due("long: join", true, bench.join(left, right));
        checks.due("long: free ones", true, bench.same(f, g));
        checks.due("long: count(1)", 252, bench.count(1));
        checks.due("long: frees", 1, bench.frees(left));
    }
}
