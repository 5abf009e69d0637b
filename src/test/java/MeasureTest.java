/** Promises 11 to 13: size, values and frees. */
public final class MeasureTest {
    private static final Checks checks = new Checks();

    public static void main(String[] args) {
        smallOnesAreMeasured();
        joinsChangeTheMeasures();
        sizeIsToldToAMillion();
        valuesAreToldToTwoToTheThirtieth();
        freesCountsEachOnce();
        wrongOnesAreRefused();
        checks.finish();
    }

    private static void measures(String what, TypeBench bench, int a, int... want) {
        checks.due("size of " + what, want[0], bench.size(a));
        checks.due("values of " + what, want[1], bench.values(a));
        checks.due("frees of " + what, want[2], bench.frees(a));
    }

    private static void smallOnesAreMeasured() {
        TypeBench bench = new TypeBench();
        int f = bench.free();
        measures("ONE", bench, 0, 0, 1, 0);
        measures("free", bench, f, 0, 1, 1);
        int two = bench.sum(0, f);
        measures("sum", bench, two, 1, 2, 1);
        int three = bench.sum(two, 0);
        measures("sum, the first part greater", bench, three, 2, 3, 1);
        measures("sum, the second part greater", bench, bench.sum(0, three), 3, 4, 1);
        measures("pair of leaves", bench, bench.pair(0, f), 0, 1, 1);
        int six = bench.pair(two, three);
        measures("pair", bench, six, 3, 6, 1);
        measures("sum of pairs", bench, bench.sum(six, bench.pair(0, 0)), 4, 7, 1);
    }

    private static void joinsChangeTheMeasures() {
        TypeBench bench = new TypeBench();
        int f = bench.free();
        int g = bench.free();
        int holder = bench.sum(bench.pair(f, g), g);
        measures("holder", bench, holder, 1, 2, 2);
        int two = bench.sum(0, 0);
        bench.join(f, bench.pair(two, g));
        measures("holder after a join", bench, holder, 2, 3, 1);
        bench.join(g, two);
        measures("holder after two joins", bench, holder, 4, 10, 0);
    }

    private static void sizeIsToldToAMillion() {
        TypeBench bench = new TypeBench();
        int[] powers = new int[20];
        powers[0] = bench.sum(0, 0);
        for (int i = 1; i < powers.length; i++) {
            powers[i] = bench.pair(powers[i - 1], powers[i - 1]);
            checks.due("size 2^" + i, 1 << i, bench.size(powers[i]));
        }
        int almost = sized(bench, powers, 999999);
        checks.due("size 999,999", 999999, bench.size(almost));
        checks.due("size 1,000,000", 1000000, bench.size(bench.sum(almost, 0)));
        int million = bench.pair(almost, powers[0]);
        checks.due("size 1,000,000 by a pair", 1000000, bench.size(million));
        checks.due("size beyond, by a sum", 1000000, bench.size(bench.sum(million, 0)));
        checks.due("size beyond, by a pair", 1000000, bench.size(bench.pair(powers[0], million)));
        int top = million;
        for (int i = 0; i < 60; i++) {
            top = bench.pair(top, top);
        }
        checks.due("size far beyond", 1000000, bench.size(top));
    }

    private static int sized(TypeBench bench, int[] powers, int want) {
        int whole = 0;
        for (int i = 0; i < powers.length; i++) {
            whole = (want >> i & 1) == 1 ? bench.pair(whole, powers[i]) : whole;
        }
        return whole;
    }

    private static void valuesAreToldToTwoToTheThirtieth() {
        TypeBench bench = new TypeBench();
        int top = 0;
        for (int i = 1; i <= 30; i++) {
            top = bench.sum(top, top);
            checks.due("values 2^" + i, 1 << i, bench.values(top));
        }
        int half = bench.part(top, false);
        checks.due("values 2^30 + 2^30", 1 << 30, bench.values(bench.sum(top, top)));
        checks.due("values 2^30 + 1", 1 << 30, bench.values(bench.sum(0, top)));
        checks.due("values 2^30 times 2^30", 1 << 30, bench.values(bench.pair(top, top)));
        checks.due("values 2^30 times 1", 1 << 30, bench.values(bench.pair(top, 0)));
        checks.due("values 2^29 times 1", 1 << 29, bench.values(bench.pair(0, half)));
        checks.due("values 2^29 + 1", (1 << 29) + 1, bench.values(bench.sum(half, 0)));
        checks.due("values 2^29 times 2", 1 << 30, bench.values(bench.pair(half, 1)));
        checks.due("values 2^29 times 4", 1 << 30, bench.values(bench.pair(2, half)));
        int below = bench.pair(bench.sum(15, 0), bench.sum(14, 0));
        checks.due("values below 2^30", 32769 * 16385, bench.values(below));
        checks.due("size of a sum of sums", 30, bench.size(top));
    }

    private static void freesCountsEachOnce() {
        TypeBench bench = new TypeBench();
        int[] free = new int[10];
        int all = 0;
        for (int i = 0; i < free.length; i++) {
            free[i] = bench.free();
            all = bench.sum(bench.pair(free[i], all), bench.pair(all, free[i]));
            checks.due("frees of " + (i + 1), i + 1, bench.frees(all));
        }
        bench.join(free[3], free[7]);
        checks.due("frees after two were joined", 9, bench.frees(all));
        bench.join(free[0], 0);
        checks.due("frees after one became ONE", 8, bench.frees(all));
        int apart = bench.free();
        checks.due("frees without one apart", 8, bench.frees(all));
        bench.join(free[1], bench.pair(apart, free[2]));
        checks.due("frees after one became a pair of others", 8, bench.frees(all));
        checks.due("count(2)", 8, bench.count(2));
        checks.due("frees of that pair", 2, bench.frees(free[1]));
    }

    private static void wrongOnesAreRefused() {
        TypeBench bench = new TypeBench();
        bench.sum(0, 0);
        String before = Checks.stateOf(bench);
        for (int w : new int[] {-1, 2, 1000, Integer.MIN_VALUE, Integer.MAX_VALUE}) {
            checks.dueThrow("size(" + w + ")", Checks.NO_SUCH, () -> bench.size(w));
            checks.dueThrow("values(" + w + ")", Checks.NO_SUCH, () -> bench.values(w));
            checks.dueThrow("frees(" + w + ")", Checks.NO_SUCH, () -> bench.frees(w));
        }
        checks.due("state after wrong ones", before, Checks.stateOf(bench));
    }
}
