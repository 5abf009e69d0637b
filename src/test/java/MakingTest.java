/** Promises 1 to 4 and 14: a new object, free, sum, pair, clear. */
public final class MakingTest {
    private static final Checks checks = new Checks();

    public static void main(String[] args) {
        aNewObjectHasOneAlone();
        typesAreNumberedAsTheyAreMade();
        partsThatAreNotThereAreRefused();
        aThousandTypesAreTheMost();
        clearBeginsAgain();
        objectsAreApart();
        checks.finish();
    }

    private static void aNewObjectHasOneAlone() {
        TypeBench bench = new TypeBench();
        checks.due("new count(0)", 1, bench.count(0));
        checks.due("new count(1)", 1, bench.count(1));
        checks.due("new count(2)", 0, bench.count(2));
        checks.due("new kind(0)", 1, bench.kind(0));
        checks.dueThrow("new kind(1)", Checks.NO_SUCH, () -> bench.kind(1));
    }

    private static void typesAreNumberedAsTheyAreMade() {
        TypeBench bench = new TypeBench();
        checks.due("free()", 1, bench.free());
        checks.due("sum(1, 0)", 2, bench.sum(1, 0));
        checks.due("pair(0, 2)", 3, bench.pair(0, 2));
        checks.due("pair(0, 2) again", 4, bench.pair(0, 2));
        checks.due("free() again", 5, bench.free());
        checks.due("kind(1)", 0, bench.kind(1));
        checks.due("kind(2)", 2, bench.kind(2));
        checks.due("kind(3)", 3, bench.kind(3));
        checks.due("kind(4)", 3, bench.kind(4));
        checks.due("part(2, false)", 1, bench.part(2, false));
        checks.due("part(2, true)", 0, bench.part(2, true));
        checks.due("part(3, false)", 0, bench.part(3, false));
        checks.due("part(3, true)", 2, bench.part(3, true));
        checks.due("two free ones differ", false, bench.same(1, 5));
        checks.due("the same pair made twice", true, bench.same(3, 4));
    }

    private static void partsThatAreNotThereAreRefused() {
        TypeBench bench = new TypeBench();
        bench.free();
        String before = Checks.stateOf(bench);
        int[] wrongOnes = {-1, 2, 1000, Integer.MIN_VALUE, Integer.MAX_VALUE};
        for (int w : wrongOnes) {
            checks.dueThrow("sum(" + w + ", 0)", Checks.NO_SUCH, () -> bench.sum(w, 0));
            checks.dueThrow("sum(0, " + w + ")", Checks.NO_SUCH, () -> bench.sum(0, w));
            checks.dueThrow("pair(" + w + ", 0)", Checks.NO_SUCH, () -> bench.pair(w, 0));
            checks.dueThrow("pair(0, " + w + ")", Checks.NO_SUCH, () -> bench.pair(0, w));
        }
        checks.due("state after wrong parts", before, Checks.stateOf(bench));
        checks.due("free() after wrong parts", 2, bench.free());
    }

    /** More than 512 calls reach the limit, so this tells more than the document promises. */
    private static void aThousandTypesAreTheMost() {
        TypeBench bench = new TypeBench();
        for (int a = 1; a < 1000; a++) {
            int answer = a % 3 == 0 ? bench.sum(a - 1, a - 2) : bench.free();
            checks.due("making number " + a, a, answer);
        }
        checks.dueThrow("free() at 1,000", Checks.ILLEGAL_STATE, () -> bench.free());
        checks.dueThrow("sum(0, 0) at 1,000", Checks.ILLEGAL_STATE, () -> bench.sum(0, 0));
        checks.dueThrow("pair(9, 999) at 1,000", Checks.ILLEGAL_STATE, () -> bench.pair(9, 999));
        checks.dueThrow("sum(1000, 0) at 1,000", Checks.NO_SUCH, () -> bench.sum(1000, 0));
        checks.dueThrow("pair(0, -1) at 1,000", Checks.NO_SUCH, () -> bench.pair(0, -1));
        checks.due("count(0) at 1,000", 1000, bench.count(0));
        checks.due("count(1) at 1,000", 1000, bench.count(1));
        checks.due("count(2) at 1,000", 666, bench.count(2));
        checks.due("clear() at 1,000", 1000, bench.clear());
        checks.due("free() after clear()", 1, bench.free());
    }

    private static void clearBeginsAgain() {
        TypeBench bench = new TypeBench();
        String fresh = Checks.stateOf(bench);
        checks.due("clear() of a new one", 1, bench.clear());
        bench.free();
        bench.pair(1, 0);
        bench.sum(0, 0);
        bench.join(1, 3);
        checks.due("clear() of four", 4, bench.clear());
        checks.due("state after clear()", fresh, Checks.stateOf(bench));
        checks.dueThrow("kind(1) after clear()", Checks.NO_SUCH, () -> bench.kind(1));
        checks.due("free() after clear()", 1, bench.free());
        checks.due("kind(1) is free again", 0, bench.kind(1));
        checks.due("pair(1, 0) after clear()", 2, bench.pair(1, 0));
        checks.due("pair(1, 0) is itself", 1, bench.frees(2));
        checks.due("sum(0, 0) after clear()", 3, bench.sum(0, 0));
        checks.due("count(1) after clear()", 4, bench.count(1));
        checks.due("sum(0, 0) is not an old one", 3, bench.part(bench.pair(3, 0), false));
        checks.due("clear() of five", 5, bench.clear());
        checks.due("clear() twice", 1, bench.clear());
    }

    private static void objectsAreApart() {
        TypeBench one = new TypeBench();
        TypeBench other = new TypeBench();
        one.free();
        one.join(0, 1);
        checks.due("count(0) of the other", 1, other.count(0));
        checks.due("free() of the other", 1, other.free());
        checks.due("kind(1) of the other", 0, other.kind(1));
        checks.due("kind(1) of the one", 1, one.kind(1));
    }
}
