/**
 * The boundary cases of promises 1 to 15: a method for each sentence, which it quotes. Promises 11
 * and 12 say nothing but SIZE and VALUES: these are looked at in MeasureEdgeTest.
 */
public final class PromiseEdgeTest {
    private static final Checks checks = new Checks();

    public static void main(String[] args) {
        promise1OneAlone();
        promise2ANewFreeOne();
        promise2ThereAreAThousand();
        promise3And4TheSmallestWholes();
        promise3And4PartsAreThoseOfJustNow();
        promise5TheyAreFromNowOn();
        promise5AlreadyTheSame();
        promise6NothingChanges();
        promise7TheSameFreeOnes();
        promise8OneToOneJustNow();
        promise9KindsJustNow();
        promise10TheLeastNumber();
        promise10ItHasNone();
        promise13DifferentFreeOnes();
        promise14AsAtTheBeginning();
        promise14HowManyThereWere();
        promise15DifferentOnes();
        promise15DifferentFreeOnes();
        promise15Else();
        checks.finish();
    }

    private static void isNew(String when, TypeBench bench) {
        checks.dueCounts(when, bench, 1, 1, 0);
        checks.due("kind(0) " + when, 1, bench.kind(0));
        checks.due("size(0) " + when, 0, bench.size(0));
        checks.due("values(0) " + when, 1, bench.values(0));
        checks.due("frees(0) " + when, 0, bench.frees(0));
        checks.due("same(0, 0) " + when, true, bench.same(0, 0));
        checks.due("renamed(0, 0) " + when, true, bench.renamed(0, 0));
        checks.dueThrow("part(0, false) " + when, Checks.NO_SUCH, () -> bench.part(0, false));
        checks.dueThrow("part(0, true) " + when, Checks.NO_SUCH, () -> bench.part(0, true));
        checks.dueThrow("kind(1) " + when, Checks.NO_SUCH, () -> bench.kind(1));
    }

    /** "ONE alone", in each new object. */
    private static void promise1OneAlone() {
        TypeBench bench = new TypeBench();
        isNew("of a new object", bench);
        bench.free();
        bench.join(0, 1);
        isNew("of a second object", new TypeBench());
        checks.dueCounts("of the first", bench, 2, 1, 0);
    }

    /** "A new FREE one": different from all that there are. */
    private static void promise2ANewFreeOne() {
        TypeBench bench = new TypeBench();
        for (int i = 0; i < 50; i++) {
            int f = bench.free();
            checks.due("kind", 0, bench.kind(f));
            for (int a = 0; a < f; a++) {
                checks.due("same as an older one", false, bench.same(a, f));
            }
            int joined = i % 3;
            if (joined < 2 && f > 1) {
                bench.join(f, joined == 0 ? 0 : f - 1);
            }
        }
    }

    /** "There are 1,000 (so for all that make one)": made in other ways, and once more later. */
    private static void promise2ThereAreAThousand() {
        TypeBench bench = new TypeBench();
        for (int round = 0; round < 2; round++) {
            for (int a = 1; a < 1000; a++) {
                checks.due("number", a, a % 2 == 0 ? bench.sum(0, 0) : bench.pair(a - 1, 0));
            }
            for (int again = 0; again < 3; again++) {
                checks.dueThrow("free()", Checks.ILLEGAL_STATE, bench::free);
                checks.dueThrow("sum", Checks.ILLEGAL_STATE, () -> bench.sum(0, 999));
                checks.dueThrow("pair", Checks.ILLEGAL_STATE, () -> bench.pair(999, 0));
            }
            checks.due("join at 1,000", true, bench.join(2, 4));
            checks.due("part at 1,000", 2, bench.part(999, false));
            checks.due("clear() at 1,000", 1000, bench.clear());
        }
    }

    /** "SUM (A, B)", "PAIR (A, B)": of ONE, of one twice, of itself made before. */
    private static void promise3And4TheSmallestWholes() {
        TypeBench bench = new TypeBench();
        checks.due("sum(0, 0)", 1, bench.sum(0, 0));
        checks.due("pair(0, 0)", 2, bench.pair(0, 0));
        checks.due("sum(1, 1)", 3, bench.sum(1, 1));
        checks.due("pair(3, 2)", 4, bench.pair(3, 2));
        checks.due("kinds of sums", 4, bench.kind(1) + bench.kind(3));
        checks.due("kinds of pairs", 6, bench.kind(2) + bench.kind(4));
        checks.due("first part of the sum", 1, bench.part(3, false));
        checks.due("second part of the sum", 1, bench.part(3, true));
        checks.due("first part of the pair", 3, bench.part(4, false));
        checks.due("second part of the pair", 2, bench.part(4, true));
        checks.due("a sum is no pair", false, bench.same(1, 2));
        checks.due("the order counts", false, bench.same(4, bench.pair(2, 3)));
        checks.due("sum(2, 0)", 6, bench.sum(2, 0));
        checks.due("first part of sum(2, 0)", 2, bench.part(6, false));
        checks.due("second part of sum(2, 0)", 0, bench.part(6, true));
        checks.due("the order counts in sums", false, bench.same(6, bench.sum(0, 2)));
    }

    /** The parts are what A and B are just now, and later what they have become. */
    private static void promise3And4PartsAreThoseOfJustNow() {
        TypeBench bench = new TypeBench();
        int f = bench.free();
        int before = bench.pair(f, 0);
        bench.join(f, bench.sum(0, 0));
        int after = bench.pair(f, 0);
        checks.due("made before and after the join", true, bench.same(before, after));
        checks.due("the first part", f, bench.part(after, false));
        checks.due("its kind", 2, bench.kind(bench.part(after, false)));
    }

    /** "If so, they are from now on": after later calls of all kinds, too. */
    private static void promise5TheyAreFromNowOn() {
        TypeBench bench = new TypeBench();
        int f = bench.free();
        int g = bench.free();
        int h = bench.free();
        checks.dueJoined("free ones", bench, f, g);
        checks.dueRefused("f in itself", bench, f, bench.sum(0, g));
        checks.due("after a refused join", true, bench.same(f, g));
        checks.dueJoined("others", bench, h, bench.pair(f, 0));
        checks.due("after another join", true, bench.same(f, g));
        checks.dueJoined("one of them", bench, g, 0);
        checks.due("after a join of one of them", true, bench.same(f, g));
        checks.due("the first has become ONE, too", 1, bench.kind(f));
    }

    /** "Whether two can be MADE THE SAME": those that are the same already can be. */
    private static void promise5AlreadyTheSame() {
        TypeBench bench = new TypeBench();
        int f = bench.free();
        int sum = bench.sum(f, 0);
        int twin = bench.sum(f, 0);
        for (int a : new int[] {0, f, sum, twin}) {
            checks.dueUnchanged("join with itself", true, bench, () -> bench.join(a, a));
            checks.dueUnchanged("alike with itself", true, bench, () -> bench.alike(a, a));
        }
        checks.dueUnchanged("join with its twin", true, bench, () -> bench.join(sum, twin));
        checks.dueUnchanged("alike with its twin", true, bench, () -> bench.alike(twin, sum));
    }

    /** "Whether they could be; nothing changes": what could be one by one may not be at once. */
    private static void promise6NothingChanges() {
        TypeBench bench = new TypeBench();
        int f = bench.free();
        int two = bench.sum(0, 0);
        int four = bench.pair(two, two);
        for (int a : new int[] {0, two, four, f}) {
            checks.dueUnchanged("alike with each", true, bench, () -> bench.alike(f, a));
            checks.dueUnchanged("alike with each, back", true, bench, () -> bench.alike(a, f));
        }
        int holder = bench.pair(f, f);
        checks.dueUnchanged("alike in itself", false, bench, () -> bench.alike(f, holder));
        checks.dueUnchanged("what it could be", false, bench, () -> bench.alike(four, two));
        int mixed = bench.pair(0, two);
        checks.dueUnchanged("two for one", false, bench, () -> bench.alike(holder, mixed));
        checks.dueUnchanged("one for one", true, bench, () -> bench.alike(holder, four));
    }

    /** "The same FREE ones": free ones are the same only if they were made so. */
    private static void promise7TheSameFreeOnes() {
        TypeBench bench = new TypeBench();
        int f = bench.free();
        int g = bench.free();
        int onF = bench.sum(f, bench.pair(f, 0));
        int onG = bench.sum(g, bench.pair(g, 0));
        int mixed = bench.sum(f, bench.pair(g, 0));
        checks.due("other free ones", false, bench.same(onF, onG));
        checks.due("one other free one", false, bench.same(onF, mixed));
        checks.due("one to one is not the same", true, bench.renamed(onF, onG));
        checks.due("alike is not the same", true, bench.alike(onF, mixed));
        checks.due("still not the same", false, bench.same(mixed, onG));
        bench.join(f, g);
        checks.due("the same free ones", true, bench.same(onF, onG));
        checks.due("all the same free ones", true, bench.same(onG, mixed));
    }

    /** "Whether they are ONE TO ONE": after a join, and when a free one has become a whole. */
    private static void promise8OneToOneJustNow() {
        TypeBench bench = new TypeBench();
        int f = bench.free();
        int g = bench.free();
        int left = bench.pair(f, g);
        int right = bench.pair(g, f);
        checks.due("exchanged", true, bench.renamed(left, right));
        bench.join(f, bench.sum(bench.free(), 0));
        checks.due("one has become a sum", false, bench.renamed(left, right));
        bench.join(g, bench.sum(bench.free(), 0));
        checks.due("both have become sums", true, bench.renamed(left, right));
        checks.due("they are not the same", false, bench.same(left, right));
    }

    /** "0 FREE, 1 ONE, 2 SUM, 3 PAIR, just now." */
    private static void promise9KindsJustNow() {
        for (int kind = 0; kind <= 3; kind++) {
            TypeBench bench = new TypeBench();
            int f = bench.free();
            int[] kinds = {bench.free(), 0, bench.sum(0, 0), bench.pair(0, 0)};
            checks.due("kind", kind, bench.kind(kinds[kind]));
            checks.due("kind of f before", 0, bench.kind(f));
            bench.alike(f, kinds[kind]);
            checks.due("kind of f after alike", 0, bench.kind(f));
            bench.join(kinds[kind], f);
            checks.due("kind of f after join", kind, bench.kind(f));
            checks.due("kind of the other", kind, bench.kind(kinds[kind]));
        }
    }

    /** "The least number of a TYPE that is the same as its first part (second: its second)." */
    private static void promise10TheLeastNumber() {
        TypeBench bench = new TypeBench();
        int f = bench.free();
        int two = bench.sum(0, 0);
        int twin = bench.sum(0, 0);
        int late = bench.free();
        int holder = bench.pair(twin, late);
        checks.due("made twice", two, bench.part(holder, false));
        checks.due("free", late, bench.part(holder, true));
        bench.alike(f, twin);
        checks.due("after alike", two, bench.part(holder, false));
        bench.join(late, twin);
        checks.due("became an older one", two, bench.part(holder, true));
        bench.join(two, f);
        checks.due("an older one became it: first", f, bench.part(holder, false));
        checks.due("an older one became it: second", f, bench.part(holder, true));
        bench.sum(0, 0);
        checks.due("made once more", f, bench.part(holder, true));
        checks.due("a part that is ONE", 0, bench.part(two, true));
        oldestOfMany();
    }

    private static void oldestOfMany() {
        TypeBench bench = new TypeBench();
        int last = 0;
        for (int i = 0; i < 30; i++) {
            last = bench.free();
        }
        int holder = bench.sum(last, last);
        for (int a = last - 1; a >= 1; a--) {
            bench.join(a + 1, a);
            checks.due("the oldest so far", a, bench.part(holder, a % 2 == 0));
        }
        bench.join(0, last);
        checks.due("the oldest of all", 0, bench.part(holder, false));
    }

    /** "NoSuchElementException: it has none, too": ONE and FREE, and what became ONE. */
    private static void promise10ItHasNone() {
        TypeBench bench = new TypeBench();
        int f = bench.free();
        int g = bench.free();
        for (boolean second : new boolean[] {false, true}) {
            checks.dueThrow("of ONE", Checks.NO_SUCH, () -> bench.part(0, second));
            checks.dueThrow("of FREE", Checks.NO_SUCH, () -> bench.part(f, second));
        }
        bench.join(f, bench.pair(g, 0));
        checks.due("it has one now", g, bench.part(f, false));
        checks.due("it has two now", 0, bench.part(f, true));
        bench.join(g, 0);
        for (boolean second : new boolean[] {false, true}) {
            checks.dueThrow("of what became ONE", Checks.NO_SUCH, () -> bench.part(g, second));
        }
    }

    /** "How many different FREE ones it has": none, itself, each once, and those of just now. */
    private static void promise13DifferentFreeOnes() {
        TypeBench bench = new TypeBench();
        int f = bench.free();
        int g = bench.free();
        checks.due("ONE has none", 0, bench.frees(0));
        checks.due("a whole of ONE has none", 0, bench.frees(bench.pair(0, bench.sum(0, 0))));
        checks.due("a free one has itself", 1, bench.frees(f));
        int twice = bench.pair(f, bench.sum(f, 0));
        checks.due("the same twice", 1, bench.frees(twice));
        int both = bench.sum(twice, g);
        checks.due("both", 2, bench.frees(both));
        checks.due("others are not counted", 1, bench.frees(g));
        bench.join(g, bench.pair(f, bench.free()));
        checks.due("one has become a pair", 2, bench.frees(both));
        bench.join(f, 0);
        checks.due("one has become ONE", 1, bench.frees(both));
        checks.due("no free one any more", 0, bench.frees(f));
        asManyAsCanBe();
    }

    private static void asManyAsCanBe() {
        TypeBench bench = new TypeBench();
        int all = bench.free();
        for (int i = 2; i <= 250; i++) {
            all = bench.pair(bench.free(), all);
        }
        checks.due("250 free ones", 250, bench.frees(all));
        checks.due("250 free ones, counted", 250, bench.count(2));
    }

    /** "All is as at the beginning." */
    private static void promise14AsAtTheBeginning() {
        TypeBench bench = new TypeBench();
        bench.clear();
        isNew("after clear() of a new object", bench);
        for (int round = 0; round < 3; round++) {
            checks.due("free()", 1, bench.free());
            checks.due("kind of a new free one", 0, bench.kind(1));
            checks.due("sum", 2, bench.sum(0, 1));
            checks.due("the sum's free one", 1, bench.frees(2));
            checks.due("pair", 3, bench.pair(2, 2));
            checks.dueCounts("before a join", bench, 4, 4, 1);
            checks.due("join", true, bench.join(1, bench.sum(0, 0)));
            checks.dueCounts("before clear()", bench, 5, 4, 0);
            checks.due("clear()", 5, bench.clear());
            isNew("after clear()", bench);
        }
        clearWithoutAJoin();
    }

    /** Without a join in between, nothing but clear() itself can forget the older wholes. */
    private static void clearWithoutAJoin() {
        TypeBench bench = new TypeBench();
        for (int round = 0; round < 3; round++) {
            bench.sum(0, 0);
            bench.pair(0, 1);
            checks.dueCounts("of two wholes", bench, 3, 3, 0);
            checks.due("the second part", 1, bench.part(2, true));
            checks.due("size", 1, bench.size(2));
            bench.clear();
            bench.pair(0, 0);
            bench.sum(0, 0);
            checks.dueCounts("of two other wholes", bench, 3, 3, 0);
            checks.due("clear()", 3, bench.clear());
        }
    }

    /** "How many TYPES there were (ONE, too)": each number, not the different ones. */
    private static void promise14HowManyThereWere() {
        TypeBench bench = new TypeBench();
        checks.due("of a new one", 1, bench.clear());
        checks.due("again", 1, bench.clear());
        bench.sum(0, 0);
        bench.sum(0, 0);
        bench.join(bench.free(), 1);
        Checks.answerOf(() -> bench.sum(9, 9));
        checks.due("types that are the same", 4, bench.clear());
        for (int i = 0; i < 999; i++) {
            bench.free();
        }
        checks.dueThrow("one too many", Checks.ILLEGAL_STATE, bench::free);
        checks.due("of 1,000", 1000, bench.clear());
    }

    /** "1 how many different ones these are just now": from all the same to all different. */
    private static void promise15DifferentOnes() {
        TypeBench bench = new TypeBench();
        for (int i = 1; i <= 20; i++) {
            bench.free();
        }
        checks.dueCounts("all different", bench, 21, 21, 20);
        for (int i = 1; i <= 20; i++) {
            bench.sum(i, 0);
        }
        checks.dueCounts("with sums of them", bench, 41, 41, 20);
        for (int i = 2; i <= 20; i++) {
            bench.join(1, i);
            checks.dueCounts("after joins", bench, 41, 43 - 2 * i, 21 - i);
        }
        bench.join(20, 0);
        checks.dueCounts("ONE and a sum", bench, 41, 2, 0);
        bench.clear();
        bench.free();
        bench.join(0, 1);
        checks.dueCounts("all the same", bench, 2, 1, 0);
    }

    /** "2 how many different FREE ones are among them just now." */
    private static void promise15DifferentFreeOnes() {
        TypeBench bench = new TypeBench();
        checks.due("none", 0, bench.count(2));
        bench.sum(bench.free(), bench.free());
        checks.due("two", 2, bench.count(2));
        bench.alike(1, 2);
        checks.due("after alike", 2, bench.count(2));
        bench.join(1, 3);
        checks.due("after a refused join", 2, bench.count(2));
        bench.join(2, bench.sum(1, 1));
        checks.due("one became a sum of the other", 1, bench.count(2));
        bench.join(1, bench.free());
        checks.due("another became it", 1, bench.count(2));
        bench.join(1, 0);
        checks.due("none again", 0, bench.count(2));
    }

    /** "Else -1": on both sides of 0 to 2, and what narrower numbers would take for these. */
    private static void promise15Else() {
        TypeBench bench = new TypeBench();
        bench.free();
        int[] others = {-1, -2, 3, 4, 10, 256, 257, 65536, 65537, 65538, -65536,
            Integer.MAX_VALUE, Integer.MIN_VALUE, Integer.MIN_VALUE + 1, Integer.MIN_VALUE + 2};
        for (int what : others) {
            checks.dueUnchanged("count(" + what + ")", -1, bench, () -> bench.count(what));
        }
    }
}
