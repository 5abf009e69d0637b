/** Promises 9, 10 and 15: kind, part and count. */
public final class LookTest {
    private static final Checks checks = new Checks();

    public static void main(String[] args) {
        kindsAreToldJustNow();
        partsAreToldByTheLeastNumber();
        whatHasNoPartsIsRefused();
        countsAreToldJustNow();
        manyDifferentOnesStayApart();
        onesOfFarApartPartsStayApart();
        otherCountsAreMinusOne();
        wrongOnesAreRefused();
        checks.finish();
    }

    private static void kindsAreToldJustNow() {
        TypeBench bench = new TypeBench();
        for (int i = 0; i < 4; i++) {
            bench.free();
        }
        bench.sum(1, 2);
        bench.pair(1, 2);
        int[] before = {1, 0, 0, 0, 0, 2, 3};
        for (int a = 0; a < before.length; a++) {
            checks.due("kind(" + a + ")", before[a], bench.kind(a));
        }
        bench.join(1, 0);
        bench.join(3, 5);
        bench.join(6, 4);
        int[] after = {1, 1, 0, 2, 3, 2, 3};
        for (int a = 0; a < after.length; a++) {
            checks.due("kind(" + a + ") after joins", after[a], bench.kind(a));
        }
    }

    private static void partsAreToldByTheLeastNumber() {
        TypeBench bench = new TypeBench();
        int f = bench.free();
        int first = bench.sum(0, f);
        int again = bench.sum(0, f);
        int holder = bench.pair(again, f);
        checks.due("the first one made", first, bench.part(holder, false));
        checks.due("second part", f, bench.part(holder, true));
        int late = bench.free();
        int later = bench.pair(late, late);
        int early = bench.part(later, false);
        checks.due("a free part", late, early);
        bench.join(late, again);
        checks.due("a part that was made the same", first, bench.part(later, true));
        bench.join(f, 0);
        checks.due("a part that became ONE", 0, bench.part(holder, true));
        checks.due("first part of the joined one", 0, bench.part(late, false));
        partsOfAnEarlyFreeOne();
    }

    private static void partsOfAnEarlyFreeOne() {
        TypeBench bench = new TypeBench();
        int early = bench.free();
        int inner = bench.sum(0, 0);
        int outer = bench.pair(inner, inner);
        bench.join(outer, early);
        checks.due("part of a free one that became a pair", inner, bench.part(early, false));
        int top = bench.sum(outer, inner);
        checks.due("the free one has the least number", early, bench.part(top, false));
    }

    private static void whatHasNoPartsIsRefused() {
        TypeBench bench = new TypeBench();
        int f = bench.free();
        for (boolean second : new boolean[] {false, true}) {
            checks.dueThrow("part of ONE", Checks.NO_SUCH, () -> bench.part(0, second));
            checks.dueThrow("part of free", Checks.NO_SUCH, () -> bench.part(f, second));
        }
        bench.join(f, 0);
        checks.dueThrow("part of joined ONE", Checks.NO_SUCH, () -> bench.part(f, true));
    }

    private static void countsAreToldJustNow() {
        TypeBench bench = new TypeBench();
        checks.dueCounts("of a new one", bench, 1, 1, 0);
        bench.free();
        bench.free();
        checks.dueCounts("of two free ones", bench, 3, 3, 2);
        bench.sum(1, 0);
        bench.sum(2, 0);
        bench.sum(1, 0);
        checks.dueCounts("of sums, one made twice", bench, 6, 5, 2);
        bench.alike(1, 2);
        checks.dueCounts("after alike", bench, 6, 5, 2);
        bench.join(1, 2);
        checks.dueCounts("after a join", bench, 6, 3, 1);
        bench.join(1, 3);
        checks.dueCounts("after a join that can not be", bench, 6, 3, 1);
        bench.join(2, 0);
        checks.dueCounts("after a join with ONE", bench, 6, 2, 0);
        bench.pair(0, 0);
        bench.pair(2, 1);
        checks.dueCounts("of pairs, one made twice", bench, 8, 3, 0);
    }

    private static void manyDifferentOnesStayApart() {
        TypeBench bench = new TypeBench();
        int leaves = 15;
        for (int i = 1; i < leaves; i++) {
            bench.free();
        }
        for (int a = 0; a < leaves; a++) {
            for (int b = 0; b < leaves; b++) {
                bench.sum(a, b);
                bench.pair(a, b);
            }
        }
        int all = leaves + 2 * leaves * leaves;
        checks.dueCounts("of all sums and pairs", bench, all, all, leaves - 1);
        bench.join(1, leaves - 1);
        int fewer = leaves - 1 + 2 * (leaves - 1) * (leaves - 1);
        checks.dueCounts("of all after a join", bench, all, fewer, leaves - 2);
    }

    /** However the program looks for the same one: numbers far apart must not be mixed up. */
    private static void onesOfFarApartPartsStayApart() {
        TypeBench bench = new TypeBench();
        int leaves = 260;
        for (int i = 1; i < leaves; i++) {
            bench.free();
        }
        for (int i = 1; i < leaves; i++) {
            if (i <= 20 || i > leaves - 20) {
                bench.pair(0, i);
                bench.pair(i, 0);
                bench.sum(0, i);
                bench.sum(i, 0);
            }
        }
        int all = bench.count(0);
        checks.dueCounts("of parts far apart", bench, leaves + 4 * 39, all, leaves - 1);
    }

    private static void otherCountsAreMinusOne() {
        TypeBench bench = new TypeBench();
        bench.free();
        for (int what : new int[] {-1, 3, 4, 1000, Integer.MIN_VALUE, Integer.MAX_VALUE}) {
            checks.due("count(" + what + ")", -1, bench.count(what));
        }
    }

    private static void wrongOnesAreRefused() {
        TypeBench bench = new TypeBench();
        bench.sum(0, 0);
        String before = Checks.stateOf(bench);
        for (int w : new int[] {-1, 2, 1000, Integer.MIN_VALUE, Integer.MAX_VALUE}) {
            checks.dueThrow("kind(" + w + ")", Checks.NO_SUCH, () -> bench.kind(w));
            checks.dueThrow("part(" + w + ", false)", Checks.NO_SUCH, () -> bench.part(w, false));
            checks.dueThrow("part(" + w + ", true)", Checks.NO_SUCH, () -> bench.part(w, true));
        }
        checks.due("state after wrong ones", before, Checks.stateOf(bench));
    }
}
