/** The boundary cases of SIZE, VALUES and ONE TO ONE under "Terms": a method for each sentence. */
public final class MeasureEdgeTest {
    private static final Checks checks = new Checks();
    private static final int MOST_SIZE = 1000000;
    private static final int MOST_VALUES = 1 << 30;

    public static void main(String[] args) {
        leavesHaveTheLeastMeasures();
        aSumIsOneMoreThanTheGreater();
        aPairIsBothTogether();
        sizeStopsAtAMillion();
        sizeNeverWrapsAround();
        aGreatPartLeavesOthersAlone();
        valuesOfASumAndAPair();
        valuesStopAtTwoToTheThirtieth();
        valuesNeverWrapAround();
        joinsCarryMeasuresOverTheLimit();
        freeOnesForFreeOnes();
        theSameForTheSameOne();
        differentOnesForDifferentOnes();
        onlyFreeOnesArePut();
        checks.finish();
    }

    /** "SIZE: of ONE and FREE 0", "VALUES: of ONE and FREE 1". */
    private static void leavesHaveTheLeastMeasures() {
        TypeBench bench = new TypeBench();
        int f = bench.free();
        checks.due("size of ONE", 0, bench.size(0));
        checks.due("size of FREE", 0, bench.size(f));
        checks.due("values of ONE", 1, bench.values(0));
        checks.due("values of FREE", 1, bench.values(f));
        int pairs = f;
        for (int i = 0; i < 40; i++) {
            pairs = bench.pair(pairs, i % 2 == 0 ? pairs : 0);
        }
        checks.due("size of pairs of leaves alone", 0, bench.size(pairs));
        checks.due("values of pairs of leaves alone", 1, bench.values(pairs));
    }

    /** "SIZE: of SUM 1 more than the greater of both." */
    private static void aSumIsOneMoreThanTheGreater() {
        TypeBench bench = new TypeBench();
        int one = bench.sum(0, 0);
        int two = bench.sum(one, 0);
        checks.due("of leaves", 1, bench.size(one));
        checks.due("first is greater", 2, bench.size(two));
        checks.due("second is greater", 3, bench.size(bench.sum(one, two)));
        checks.due("both are equal", 3, bench.size(bench.sum(two, two)));
    }

    /** "SIZE: of PAIR both together", a part that stands twice counted twice. */
    private static void aPairIsBothTogether() {
        TypeBench bench = new TypeBench();
        int one = bench.sum(0, 0);
        int two = bench.sum(0, one);
        checks.due("of leaves", 0, bench.size(bench.pair(0, 0)));
        checks.due("first alone", 2, bench.size(bench.pair(two, 0)));
        checks.due("second alone", 1, bench.size(bench.pair(0, one)));
        checks.due("both", 3, bench.size(bench.pair(two, one)));
        checks.due("the same twice", 4, bench.size(bench.pair(two, two)));
    }

    /** Types of the sizes (by pairs) or values (by sums) 1, 2, 4 .. */
    private static int[] powers(TypeBench bench, int many, boolean bySums) {
        int[] powers = new int[many];
        powers[0] = bySums ? 0 : bench.sum(0, 0);
        for (int i = 1; i < many; i++) {
            int half = powers[i - 1];
            powers[i] = bySums ? bench.sum(half, half) : bench.pair(half, half);
        }
        return powers;
    }

    private static int sized(TypeBench bench, int[] powers, int size) {
        int whole = 0;
        for (int i = 0; i < powers.length; i++) {
            whole = (size >> i & 1) == 1 ? bench.pair(whole, powers[i]) : whole;
        }
        return whole;
    }

    private static int valued(TypeBench bench, int[] powers, int values) {
        int whole = -1;
        for (int i = 0; i < powers.length; i++) {
            if ((values >> i & 1) == 1) {
                whole = whole < 0 ? powers[i] : bench.sum(whole, powers[i]);
            }
        }
        return whole;
    }

    /** "SIZE: at most 1,000,000 is told": the last below, the limit, the first beyond. */
    private static void sizeStopsAtAMillion() {
        TypeBench bench = new TypeBench();
        int[] powers = powers(bench, 20, false);
        int below = sized(bench, powers, MOST_SIZE - 1);
        int half = sized(bench, powers, MOST_SIZE / 2);
        checks.due("999,999 by pairs", MOST_SIZE - 1, bench.size(below));
        checks.due("999,999 by a sum", MOST_SIZE - 1,
                bench.size(bench.sum(0, sized(bench, powers, MOST_SIZE - 2))));
        int bySum = bench.sum(below, 0);
        int byPair = bench.pair(half, half);
        checks.due("1,000,000 by a sum", MOST_SIZE, bench.size(bySum));
        checks.due("1,000,000 by a pair", MOST_SIZE, bench.size(byPair));
        checks.due("1,000,001 by a sum", MOST_SIZE, bench.size(bench.sum(0, byPair)));
        checks.due("1,000,001 by a pair", MOST_SIZE, bench.size(bench.pair(powers[0], bySum)));
        int three = bench.sum(0, powers[1]);
        checks.due("1,000,002 by a pair", MOST_SIZE, bench.size(bench.pair(below, three)));
        checks.due("1,999,998 by a pair", MOST_SIZE, bench.size(bench.pair(below, below)));
        checks.due("1,000,000 with nothing more", MOST_SIZE, bench.size(bench.pair(0, byPair)));
    }

    /** The same sentence, where an int or a long would have wrapped around long ago. */
    private static void sizeNeverWrapsAround() {
        TypeBench bench = new TypeBench();
        int[] powers = powers(bench, 130, false);
        for (int i = 0; i < powers.length; i++) {
            int due = i < 20 ? 1 << i : MOST_SIZE;
            checks.due("size 2^" + i, due, bench.size(powers[i]));
        }
        int top = powers[129];
        for (int i = 0; i < 50; i++) {
            top = bench.sum(top, top);
            checks.due("size of a sum beyond", MOST_SIZE, bench.size(top));
        }
        checks.due("sum of great ones", MOST_SIZE, bench.size(bench.sum(powers[31], powers[32])));
        checks.due("pair of great ones", MOST_SIZE, bench.size(bench.pair(powers[31], powers[63])));
    }

    /** A limit that is reached in one place is not told in another. */
    private static void aGreatPartLeavesOthersAlone() {
        TypeBench bench = new TypeBench();
        int[] powers = powers(bench, 40, false);
        int[] values = powers(bench, 40, true);
        int small = bench.sum(0, bench.pair(0, 0));
        checks.due("size of the great one", MOST_SIZE, bench.size(powers[39]));
        checks.due("size of a small one", 1, bench.size(small));
        checks.due("size of 2^19", 1 << 19, bench.size(powers[19]));
        checks.due("values of the great one", MOST_VALUES, bench.values(values[39]));
        checks.due("values of a small one", 2, bench.values(small));
        checks.due("values of 2^29", 1 << 29, bench.values(values[29]));
        checks.due("size of one of great values", 39, bench.size(values[39]));
        int flat = bench.pair(0, bench.pair(0, 0));
        checks.due("size of a flat one", 0, bench.size(flat));
        checks.due("values of a flat one", 1, bench.values(flat));
    }

    /** "VALUES: of SUM both together; of PAIR one times the other." */
    private static void valuesOfASumAndAPair() {
        TypeBench bench = new TypeBench();
        int two = bench.sum(0, bench.free());
        int three = bench.sum(two, 0);
        checks.due("sum of leaves", 2, bench.values(two));
        checks.due("sum of 2 and 1", 3, bench.values(three));
        checks.due("sum of 2 and 3", 5, bench.values(bench.sum(two, three)));
        checks.due("pair of leaves", 1, bench.values(bench.pair(0, 0)));
        checks.due("pair of 1 and 3", 3, bench.values(bench.pair(0, three)));
        checks.due("pair of 3 and 1", 3, bench.values(bench.pair(three, 0)));
        checks.due("pair of 2 and 3", 6, bench.values(bench.pair(two, three)));
        checks.due("the same twice", 9, bench.values(bench.pair(three, three)));
    }

    /** "VALUES: at most 2^30 is told": the last below, the limit, the first beyond. */
    private static void valuesStopAtTwoToTheThirtieth() {
        TypeBench bench = new TypeBench();
        int[] powers = powers(bench, 31, true);
        int below = valued(bench, powers, MOST_VALUES - 1);
        checks.due("2^30 - 1 by sums", MOST_VALUES - 1, bench.values(below));
        checks.due("2^30 - 1 by a pair", MOST_VALUES - 1, bench.values(
                bench.pair(valued(bench, powers, 32767), valued(bench, powers, 32769))));
        checks.due("2^30 by a sum of halves", MOST_VALUES, bench.values(powers[30]));
        checks.due("2^30 by a sum with ONE", MOST_VALUES, bench.values(bench.sum(below, 0)));
        checks.due("2^30 by a pair", MOST_VALUES, bench.values(bench.pair(powers[15], powers[15])));
        checks.due("2^30 times 1", MOST_VALUES, bench.values(bench.pair(0, powers[30])));
        checks.due("2^30 + 1 by a sum", MOST_VALUES, bench.values(bench.sum(0, powers[30])));
        checks.due("2^30 + 1 by a pair", MOST_VALUES, bench.values(
                bench.pair(valued(bench, powers, 13325), valued(bench, powers, 80581))));
        checks.due("2^31 - 2 by a sum", MOST_VALUES, bench.values(bench.sum(below, below)));
        checks.due("2^31 - 2 by a pair", MOST_VALUES, bench.values(bench.pair(powers[1], below)));
    }

    /** The same sentence, where an int or a long would have wrapped around. */
    private static void valuesNeverWrapAround() {
        TypeBench bench = new TypeBench();
        int[] powers = powers(bench, 100, true);
        for (int i = 0; i < powers.length; i++) {
            int due = i < 30 ? 1 << i : MOST_VALUES;
            checks.due("values 2^" + i + " by sums", due, bench.values(powers[i]));
        }
        int square = powers[1];
        for (int i = 1; i < 100; i++) {
            square = bench.pair(square, square);
            int due = i < 5 ? 1 << (1 << i) : MOST_VALUES;
            checks.due("values squared " + i + " times", due, bench.values(square));
        }
        greatProduct("2^16 times 2^16", bench, powers[16], powers[16]);
        greatProduct("2^15 times 2^16", bench, powers[15], powers[16]);
        greatProduct("2^32 times 2^32", bench, powers[32], powers[32]);
        int odd = bench.sum(powers[16], 0);
        greatProduct("65,537 squared", bench, odd, odd);
        int root = valued(bench, powers, 46341);
        greatProduct("46,341 squared", bench, root, root);
    }

    private static void greatProduct(String what, TypeBench bench, int a, int b) {
        checks.due(what, MOST_VALUES, bench.values(bench.pair(a, b)));
    }

    /** The measures are those of just now: a join carries a small type over both limits. */
    private static void joinsCarryMeasuresOverTheLimit() {
        TypeBench bench = new TypeBench();
        int f = bench.free();
        int holder = bench.pair(f, f);
        int[] sizes = powers(bench, 20, false);
        int[] values = powers(bench, 30, true);
        checks.due("size before", 0, bench.size(holder));
        checks.due("values before", 1, bench.values(holder));
        checks.due("alike", true, bench.alike(f, sizes[19]));
        checks.due("size after alike", 0, bench.size(holder));
        bench.join(f, bench.pair(sizes[19], values[29]));
        checks.due("size of what it became", (1 << 19) + 29, bench.size(f));
        checks.due("size of its holder", MOST_SIZE, bench.size(holder));
        checks.due("values of its holder", MOST_VALUES, bench.values(holder));
    }

    private static void oneToOne(String what, boolean want, TypeBench bench, int a, int b) {
        checks.dueUnchanged(what, want, bench, () -> bench.renamed(a, b));
        checks.dueUnchanged(what + ", back", want, bench, () -> bench.renamed(b, a));
    }

    /** "The second comes from the first by putting FREE ones for FREE ones." */
    private static void freeOnesForFreeOnes() {
        TypeBench bench = new TypeBench();
        int f = bench.free();
        int g = bench.free();
        int h = bench.free();
        int pair = bench.pair(f, g);
        oneToOne("without free ones", true, bench, 0, 0);
        oneToOne("without free ones, made twice", true, bench, bench.sum(0, 0), bench.sum(0, 0));
        oneToOne("free ones", true, bench, f, g);
        oneToOne("itself", true, bench, pair, pair);
        oneToOne("exchanged", true, bench, pair, bench.pair(g, f));
        oneToOne("one stays", true, bench, pair, bench.pair(f, h));
        oneToOne("moved on", true, bench, pair, bench.pair(g, h));
        oneToOne("the second inside the first", false, bench, bench.sum(pair, f), pair);
    }

    /** "The same for the same one." */
    private static void theSameForTheSameOne() {
        TypeBench bench = new TypeBench();
        int f = bench.free();
        int g = bench.free();
        int h = bench.free();
        checks.due("two for one", false, bench.renamed(bench.pair(f, f), bench.pair(g, h)));
        checks.due("one for one", true, bench.renamed(bench.pair(f, f), bench.pair(g, g)));
        checks.due("itself and another for one", false,
                bench.renamed(bench.sum(f, f), bench.sum(f, g)));
        int left = bench.sum(f, g);
        oneToOne("equal parts, exchanged once", false, bench,
                bench.pair(left, left), bench.pair(left, bench.sum(g, f)));
        oneToOne("equal parts, exchanged twice", true, bench,
                bench.pair(left, left), bench.pair(bench.sum(g, f), bench.sum(g, f)));
        oneToOne("far apart", false, bench,
                bench.sum(bench.pair(f, 0), bench.pair(0, f)),
                bench.sum(bench.pair(g, 0), bench.pair(0, h)));
    }

    /** "And different ones for different ones." */
    private static void differentOnesForDifferentOnes() {
        TypeBench bench = new TypeBench();
        int f = bench.free();
        int g = bench.free();
        int h = bench.free();
        int two = bench.pair(f, g);
        checks.due("one for two", false, bench.renamed(two, bench.pair(h, h)));
        checks.due("one of them for both", false, bench.renamed(two, bench.pair(f, f)));
        checks.due("one for two, far apart", false, bench.renamed(
                bench.sum(bench.sum(f, 0), bench.sum(0, g)),
                bench.sum(bench.sum(h, 0), bench.sum(0, h))));
        bench.join(f, g);
        checks.due("they are the same now", true, bench.renamed(two, bench.pair(h, h)));
        bench.join(h, f);
        checks.due("all are the same now", true, bench.renamed(two, bench.pair(h, h)));
    }

    /** ONE TO ONE puts nothing but FREE ones, and nothing for others. */
    private static void onlyFreeOnesArePut() {
        TypeBench bench = new TypeBench();
        int f = bench.free();
        int sum = bench.sum(f, f);
        int pair = bench.pair(f, f);
        int[] kinds = {0, f, sum, pair};
        for (int a = 0; a < kinds.length; a++) {
            for (int b = 0; b < a; b++) {
                oneToOne("kinds", false, bench, kinds[a], kinds[b]);
                oneToOne("first parts", false, bench,
                        bench.sum(kinds[a], f), bench.sum(kinds[b], f));
                oneToOne("second parts", false, bench,
                        bench.pair(0, kinds[a]), bench.pair(0, kinds[b]));
            }
        }
    }
}
