/** The boundary cases of the words under "Terms": a method for each sentence, which it quotes. */
public final class TermsEdgeTest {
    private static final Checks checks = new Checks();
    private static final int[] KINDS = {0, 1, 2, 3};

    public static void main(String[] args) {
        numberedFromZeroAsTheyAreMade();
        atMostAThousand();
        zeroIsOneFromTheBeginning();
        aFreeOneBecomesItWhereverItStands();
        aFreeOneBecomesEachKind();
        freeOnesBecomeOneAnother();
        oneIsTheSameAsOne();
        wholesAreIfBothPartsAre();
        oneSumAndPairAreNotTheSame();
        nothingChangesIfItCanNotBe();
        nothingChangesIfATypeWouldContainItself();
        itContainsItselfOnlyThroughOthers();
        whatDoesNotContainItselfIsJoined();
        checks.finish();
    }

    private static int made(TypeBench bench, int kind, int a, int b) {
        return switch (kind) {
            case 0 -> bench.free();
            case 1 -> 0;
            case 2 -> bench.sum(a, b);
            default -> bench.pair(a, b);
        };
    }

    /** "TYPES are numbered from 0 as they are made": no call that makes none takes a number. */
    private static void numberedFromZeroAsTheyAreMade() {
        TypeBench bench = new TypeBench();
        checks.due("the first one made", 1, bench.free());
        checks.due("a sum of it", 2, bench.sum(1, 1));
        bench.join(1, 2);
        checks.due("after a refused join", 3, bench.pair(2, 0));
        Checks.answerOf(() -> bench.sum(4, 0));
        Checks.answerOf(() -> bench.pair(0, 4));
        checks.due("after wrong parts", 4, bench.free());
        bench.alike(4, 3);
        bench.join(4, 3);
        checks.due("the same as two others", 5, bench.pair(2, 0));
        checks.due("after types that are the same", 6, bench.sum(5, 4));
        bench.part(6, true);
        bench.renamed(6, 5);
        bench.count(0);
        checks.due("after calls that look", 7, bench.free());
    }

    /** "At most 1,000": ONE is one of them, and types that are the same are counted each. */
    private static void atMostAThousand() {
        fill("frees", (bench, a) -> bench.free(), 1000, 999);
        fill("equal sums", (bench, a) -> bench.sum(0, 0), 2, 0);
        fill("equal pairs", (bench, a) -> bench.pair(0, 0), 2, 0);
        fill("sums upon sums", (bench, a) -> bench.sum(a - 1, 0), 1000, 0);
        fill("pairs upon pairs", (bench, a) -> bench.pair(a - 1, a - 1), 1000, 0);
    }

    private interface Maker {
        int make(TypeBench bench, int number);
    }

    private static void fill(String what, Maker maker, int different, int frees) {
        TypeBench bench = new TypeBench();
        for (int a = 1; a <= 999; a++) {
            checks.due("number of " + what, a, maker.make(bench, a));
        }
        checks.dueThrow("free() beyond " + what, Checks.ILLEGAL_STATE, bench::free);
        checks.dueThrow("sum beyond " + what, Checks.ILLEGAL_STATE, () -> bench.sum(999, 999));
        checks.dueThrow("pair beyond " + what, Checks.ILLEGAL_STATE, () -> bench.pair(0, 0));
        checks.dueCounts("of " + what, bench, 1000, different, frees);
        checks.dueThrow("kind(1000) of " + what, Checks.NO_SUCH, () -> bench.kind(1000));
    }

    /** "0 is ONE, there from the beginning", and whatever is made the same as it. */
    private static void zeroIsOneFromTheBeginning() {
        TypeBench bench = new TypeBench();
        checks.due("kind of 0", 1, bench.kind(0));
        bench.free();
        bench.free();
        bench.join(0, 1);
        bench.join(2, 0);
        checks.due("kind of 0 after joins", 1, bench.kind(0));
        checks.due("kind of 1 after joins", 1, bench.kind(1));
        checks.due("kind of 2 after joins", 1, bench.kind(2));
        checks.due("part that is 0", 0, bench.part(bench.sum(1, 2), false));
        bench.clear();
        checks.due("kind of 0 after clear()", 1, bench.kind(0));
    }

    /** "A FREE one becomes what it is made the same as, wherever it stands." */
    private static void aFreeOneBecomesItWhereverItStands() {
        for (int order = 0; order < 2; order++) {
            TypeBench bench = new TypeBench();
            int f = bench.free();
            int first = bench.sum(f, 0);
            int second = bench.pair(0, f);
            int both = bench.pair(f, f);
            int deep = bench.sum(bench.pair(0, bench.sum(both, 0)), 0);
            int two = bench.sum(0, 0);
            boolean turned = order == 1;
            checks.due("join", true, turned ? bench.join(two, f) : bench.join(f, two));
            checks.due("itself", true, bench.same(f, two));
            checks.due("as a first part", true, bench.same(first, bench.sum(two, 0)));
            checks.due("as a second part", true, bench.same(second, bench.pair(0, two)));
            checks.due("as both parts", true, bench.same(both, bench.pair(two, two)));
            checks.due("deep inside", 6, bench.values(deep));
            checks.due("in one made later", 8, bench.values(bench.pair(both, f)));
            checks.due("no free one is left", 0, bench.count(2));
        }
    }

    /** The same sentence, for each kind of what it is made the same as. */
    private static void aFreeOneBecomesEachKind() {
        for (int kind : KINDS) {
            TypeBench bench = new TypeBench();
            int f = bench.free();
            int holder = bench.pair(0, f);
            int target = made(bench, kind, 0, 0);
            checks.dueJoined("free and kind " + kind, bench, f, target);
            checks.due("kind of f", kind, bench.kind(f));
            checks.due("kind of its place", kind, bench.kind(bench.part(holder, true)));
        }
    }

    /** "A FREE one becomes what it is made the same as": another free one, or itself. */
    private static void freeOnesBecomeOneAnother() {
        TypeBench bench = new TypeBench();
        int f = bench.free();
        int g = bench.free();
        int h = bench.free();
        checks.dueUnchanged("join with itself", true, bench, () -> bench.join(f, f));
        checks.dueJoined("two free ones", bench, g, f);
        checks.due("they stay free", 0, bench.kind(g));
        checks.due("the third stays apart", false, bench.same(h, f));
        checks.dueJoined("three free ones", bench, h, g);
        checks.dueJoined("all become ONE by the last", bench, 0, h);
        checks.due("the first is ONE", 1, bench.kind(f));
    }

    /** "ONE is the same as ONE." */
    private static void oneIsTheSameAsOne() {
        TypeBench bench = new TypeBench();
        checks.dueUnchanged("join(0, 0)", true, bench, () -> bench.join(0, 0));
        checks.dueUnchanged("alike(0, 0)", true, bench, () -> bench.alike(0, 0));
        bench.free();
        bench.join(1, 0);
        checks.dueUnchanged("join(1, 0) again", true, bench, () -> bench.join(1, 0));
        checks.dueJoined("sums of ONE", bench, bench.sum(0, 1), bench.sum(1, 0));
    }

    /** "A SUM as a SUM, a PAIR as a PAIR if their first parts and their second ones are." */
    private static void wholesAreIfBothPartsAre() {
        for (int kind = 2; kind <= 3; kind++) {
            TypeBench bench = new TypeBench();
            int two = bench.sum(0, 0);
            int whole = made(bench, kind, 0, two);
            checks.dueJoined("both parts are", bench, whole, made(bench, kind, 0, bench.sum(0, 0)));
            checks.dueRefused("first part is not", bench, whole, made(bench, kind, two, two));
            checks.dueRefused("second part is not", bench, whole, made(bench, kind, 0, 0));
            checks.dueRefused("neither part is", bench, whole, made(bench, kind, two, 0));
            int f = bench.free();
            int g = bench.free();
            checks.dueJoined("both parts can be", bench, whole, made(bench, kind, f, g));
            checks.due("first part was made the same", true, bench.same(f, 0));
            checks.due("second part was made the same", true, bench.same(g, two));
        }
    }

    /** "ONE, SUM and PAIR are not the same", at the top and as a part of equal wholes. */
    private static void oneSumAndPairAreNotTheSame() {
        for (int kind = 1; kind <= 3; kind++) {
            for (int other = kind + 1; other <= 3; other++) {
                TypeBench bench = new TypeBench();
                int f = bench.free();
                int a = made(bench, kind, f, f);
                int b = made(bench, other, f, f);
                checks.dueRefused("kinds", bench, a, b);
                checks.dueRefused("first parts", bench, bench.sum(a, f), bench.sum(b, f));
                checks.dueRefused("second parts", bench, bench.pair(f, a), bench.pair(f, b));
                int g = bench.free();
                bench.join(g, a);
                checks.dueRefused("one that became it", bench, g, b);
            }
        }
    }

    /** "If that can not be, nothing changes": all that was well before the fault is undone. */
    private static void nothingChangesIfItCanNotBe() {
        TypeBench bench = new TypeBench();
        int f = bench.free();
        int g = bench.free();
        int two = bench.sum(0, 0);
        int four = bench.pair(two, two);
        checks.dueRefused("second fails", bench, bench.sum(f, 0), bench.sum(two, two));
        checks.dueRefused("first fails", bench, bench.sum(0, f), bench.sum(two, two));
        checks.dueRefused("two for one", bench, bench.pair(f, f), bench.pair(two, four));
        checks.dueRefused("two for one through another", bench,
                bench.pair(bench.pair(f, f), g), bench.pair(bench.pair(g, two), 0));
        longRowFailsAtItsEnd(false);
        longRowFailsAtItsEnd(true);
    }

    /** The last couple that is looked at fails, whichever end the program begins with. */
    private static void longRowFailsAtItsEnd(boolean inFront) {
        TypeBench bench = new TypeBench();
        int two = bench.sum(0, 0);
        int left = 0;
        int right = two;
        int f = 0;
        for (int i = 0; i < 40; i++) {
            f = bench.free();
            left = inFront ? bench.pair(left, f) : bench.pair(f, left);
            right = inFront ? bench.pair(right, two) : bench.pair(two, right);
        }
        checks.dueRefused("a long row", bench, left, right);
        checks.due("all free ones are left", 40, bench.count(2));
        checks.dueJoined("one of them can become a pair still", bench, f, bench.pair(two, two));
    }

    /** "Or a TYPE would contain itself, nothing changes": in each place of each kind. */
    private static void nothingChangesIfATypeWouldContainItself() {
        for (int kind = 2; kind <= 3; kind++) {
            TypeBench bench = new TypeBench();
            int f = bench.free();
            checks.dueRefused("as a first part", bench, f, made(bench, kind, f, 0));
            checks.dueRefused("as a second part", bench, f, made(bench, kind, 0, f));
            int both = made(bench, kind, f, f);
            checks.dueRefused("as both parts", bench, f, both);
            int deep = both;
            for (int i = 0; i < 30; i++) {
                deep = made(bench, 2 + i % 2, i % 3 == 0 ? deep : 0, i % 3 == 0 ? 0 : deep);
            }
            checks.dueRefused("deep inside", bench, f, deep);
            checks.dueRefused("a whole with its part's place", bench,
                    made(bench, kind, f, 0), made(bench, kind, both, 0));
        }
    }

    /** The same sentence, where only two or more free ones together make the ring. */
    private static void itContainsItselfOnlyThroughOthers() {
        TypeBench bench = new TypeBench();
        int f = bench.free();
        int g = bench.free();
        int h = bench.free();
        int onF = bench.sum(f, 0);
        int onG = bench.sum(g, 0);
        checks.dueRefused("a ring of two", bench, bench.pair(f, g), bench.pair(onG, onF));
        checks.dueRefused("a ring by equal free ones", bench, bench.pair(f, g), bench.pair(onG, f));
        checks.dueRefused("a ring of three", bench, bench.pair(bench.pair(f, g), h),
                bench.pair(bench.pair(onG, bench.sum(0, h)), bench.pair(0, f)));
        checks.dueRefused("a ring beside what is well", bench,
                bench.pair(h, bench.pair(g, g)), bench.pair(onF, bench.pair(f, onF)));
        checks.dueJoined("the first half of a ring", bench, f, onG);
        checks.dueRefused("the other half", bench, g, onF);
        checks.dueRefused("the other half, with f", bench, g, f);
        checks.dueRefused("the other half, through h", bench, bench.pair(h, h), bench.pair(g, f));
    }

    /** What only seems to contain itself is joined, and a refused ring leaves nothing behind. */
    private static void whatDoesNotContainItselfIsJoined() {
        TypeBench bench = new TypeBench();
        int f = bench.free();
        int g = bench.free();
        int onF = bench.pair(f, f);
        checks.due("refused", false, bench.join(f, onF));
        checks.dueJoined("a whole with itself", bench, onF, onF);
        checks.dueJoined("a part that stands twice", bench, bench.pair(onF, onF), bench.pair(g, g));
        checks.dueJoined("one under the other", bench, bench.sum(f, 0), bench.sum(0, f));
        checks.due("f is ONE", 1, bench.kind(f));
        checks.due("g is a pair of ONE", true, bench.same(g, bench.pair(0, 0)));
    }
}
