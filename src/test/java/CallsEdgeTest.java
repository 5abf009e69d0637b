import java.util.ArrayList;
import java.util.List;
import java.util.Map;

/** The boundary cases of "All calls" and of the 512 calls of an object. */
public final class CallsEdgeTest {
    private static final Checks checks = new Checks();
    private static final String NO_SUCH = "throws." + Checks.NO_SUCH;
    private static final String ILLEGAL_STATE = "throws." + Checks.ILLEGAL_STATE;

    public static void main(String[] args) {
        aTypeThatThereIsNot();
        aTypeThatThereIsNoMore();
        theLeastAndTheGreatestThatThereAre();
        aTypeThatThereIsNotIsLookedAtFirst();
        aCallThatThrowsChangesNothing();
        aCallThatThrowsAtAThousandChangesNothing();
        aCallThatThrowsMakesNoNumber();
        theLastOfFiveHundredAndTwelveCalls();
        allCallsAnswerAtAThousand();
        checks.finish();
    }

    /** Too small, too large, and what narrower numbers would take for one that there is. */
    private static List<Integer> wrongOnes(TypeBench bench) {
        int types = bench.count(0);
        List<Integer> wrong = new ArrayList<>(List.of(-1, -2, -types, types, types + 1));
        wrong.addAll(List.of(1000, 1001, 1 << 16, 1 << 24, 1 << 30, -(1 << 8), -(1 << 16)));
        wrong.addAll(List.of(Integer.MAX_VALUE, Integer.MIN_VALUE, Integer.MIN_VALUE + 1));
        return wrong;
    }

    private static void allThrow(String when, TypeBench bench, int wrong) {
        for (Map.Entry<String, Checks.Call> call : Checks.callsWith(bench, wrong).entrySet()) {
            checks.due(call.getKey() + " " + when, NO_SUCH, Checks.answerOf(call.getValue()));
        }
    }

    private static TypeBench someTypes() {
        TypeBench bench = new TypeBench();
        int f = bench.free();
        int g = bench.free();
        int sum = bench.sum(f, bench.pair(g, 0));
        bench.pair(sum, sum);
        bench.join(bench.free(), sum);
        bench.join(g, bench.sum(0, 0));
        return bench;
    }

    /** "NoSuchElementException: a TYPE that there is not", in each place of each call. */
    private static void aTypeThatThereIsNot() {
        TypeBench fresh = new TypeBench();
        TypeBench bench = someTypes();
        for (int wrong : wrongOnes(fresh)) {
            allThrow("of a new object", fresh, wrong);
        }
        for (int wrong : wrongOnes(bench)) {
            allThrow("of some types", bench, wrong);
        }
        checks.due("nothing was made in the new one", 1, fresh.count(0));
    }

    /** The same sentence, for the numbers that clear() took away. */
    private static void aTypeThatThereIsNoMore() {
        TypeBench bench = someTypes();
        int were = bench.clear();
        for (int a = 1; a <= were; a++) {
            allThrow("after clear()", bench, a);
        }
        bench.free();
        checks.due("the first is there again", 0, bench.kind(1));
        allThrow("after clear() and free()", bench, 2);
    }

    /** 0 and the number made last are there, in each place of each call. */
    private static void theLeastAndTheGreatestThatThereAre() {
        TypeBench bench = new TypeBench();
        for (int made = 1; made < 30; made++) {
            bench.sum(made - 1, made - 1);
            for (int a : new int[] {0, made}) {
                checks.due("same", true, bench.same(a, a));
                checks.due("alike", true, bench.alike(a, a));
                checks.due("join", true, bench.join(a, a));
                checks.due("renamed", true, bench.renamed(a, a));
                checks.due("kind", a == 0 ? 1 : 2, bench.kind(a));
                checks.due("size", a, bench.size(a));
                checks.due("values", 1 << a, bench.values(a));
                checks.due("frees", 0, bench.frees(a));
            }
            checks.due("part", made - 1, bench.part(made, true));
        }
    }

    private static TypeBench full() {
        TypeBench bench = new TypeBench();
        for (int a = 1; a < 1000; a++) {
            int made = a % 2 == 0 ? bench.pair(a - 1, a / 2) : bench.free();
            checks.due("number", a, made);
        }
        return bench;
    }

    /** "A TYPE that there is not (looked at first)": before the 1,000 that there are. */
    private static void aTypeThatThereIsNotIsLookedAtFirst() {
        TypeBench bench = full();
        for (int wrong : wrongOnes(bench)) {
            allThrow("at 1,000", bench, wrong);
        }
        for (int a : new int[] {0, 1, 998, 999}) {
            checks.dueThrow("sum at 1,000", Checks.ILLEGAL_STATE, () -> bench.sum(a, 0));
            checks.dueThrow("sum at 1,000", Checks.ILLEGAL_STATE, () -> bench.sum(0, a));
            checks.dueThrow("pair at 1,000", Checks.ILLEGAL_STATE, () -> bench.pair(a, 0));
            checks.dueThrow("pair at 1,000", Checks.ILLEGAL_STATE, () -> bench.pair(0, a));
        }
    }

    /** "A call that throws changes nothing": each call by itself, with each wrong number. */
    private static void aCallThatThrowsChangesNothing() {
        TypeBench bench = someTypes();
        for (int wrong : wrongOnes(bench)) {
            for (Map.Entry<String, Checks.Call> call : Checks.callsWith(bench, wrong).entrySet()) {
                checks.dueUnchanged(call.getKey(), NO_SUCH, bench, call.getValue());
            }
        }
        int f = 1;
        for (int a : new int[] {0, f}) {
            checks.dueUnchanged("part without", NO_SUCH, bench, () -> bench.part(a, false));
            checks.dueUnchanged("part without", NO_SUCH, bench, () -> bench.part(a, true));
        }
    }

    /** The same sentence, for the calls that make one. */
    private static void aCallThatThrowsAtAThousandChangesNothing() {
        TypeBench bench = full();
        String before = Checks.stateOf(bench);
        checks.due("free()", ILLEGAL_STATE, Checks.answerOf(bench::free));
        checks.due("sum", ILLEGAL_STATE, Checks.answerOf(() -> bench.sum(1, 999)));
        checks.due("pair", ILLEGAL_STATE, Checks.answerOf(() -> bench.pair(999, 2)));
        checks.due("a pair that there is", ILLEGAL_STATE, Checks.answerOf(() -> bench.pair(1, 1)));
        allThrow("at 1,000", bench, 1000);
        checks.due("state", before, Checks.stateOf(bench));
        checks.due("types", 1000, bench.clear());
        checks.due("the first after clear()", 1, bench.free());
    }

    /** The same sentence: what is made next is as if the call had not been. */
    private static void aCallThatThrowsMakesNoNumber() {
        TypeBench bench = new TypeBench();
        int f = bench.free();
        checks.dueThrow("sum(1, 2)", Checks.NO_SUCH, () -> bench.sum(f, 2));
        checks.dueThrow("pair(2, 1)", Checks.NO_SUCH, () -> bench.pair(2, f));
        checks.due("the next one", 2, bench.sum(f, f));
        checks.due("different ones", 3, bench.count(1));
        checks.dueThrow("join(1, 3)", Checks.NO_SUCH, () -> bench.join(f, 3));
        checks.dueThrow("join(3, 1)", Checks.NO_SUCH, () -> bench.join(3, f));
        checks.due("the one after it", 3, bench.free());
        checks.due("it is not joined with 1", false, bench.same(f, 3));
    }

    /** "An object is used for at most 512 calls": all of them answer as due. */
    private static void theLastOfFiveHundredAndTwelveCalls() {
        TypeBench frees = new TypeBench();
        TypeBench sums = new TypeBench();
        TypeBench pairs = new TypeBench();
        for (int call = 1; call <= 512; call++) {
            checks.due("free() number " + call, call, frees.free());
            checks.due("sum number " + call, call, sums.sum(call - 1, call - 1));
            checks.due("pair number " + call, call, pairs.pair(0, call - 1));
        }
        TypeBench joins = new TypeBench();
        joins.free();
        for (int call = 2; call <= 510; call++) {
            joins.sum(call - 1, 0);
        }
        checks.due("join as call 511", true, joins.join(0, 1));
        checks.due("size as call 512", 509, joins.size(510));
    }

    /** "At most 1,000": the deepest type that there can be, on either side, is looked through. */
    private static void allCallsAnswerAtAThousand() {
        for (int side = 0; side < 2; side++) {
            TypeBench bench = new TypeBench();
            bench.free();
            for (int a = 2; a < 1000; a++) {
                checks.due("number", a, side == 0 ? bench.sum(a - 1, 0) : bench.sum(0, a - 1));
            }
            checks.due("renamed", true, bench.renamed(999, 999));
            checks.due("renamed, one less deep", false, bench.renamed(999, 998));
            checks.due("alike, in itself", false, bench.alike(998, 999));
            checks.due("size", 998, bench.size(999));
            checks.due("values", 999, bench.values(999));
            checks.due("frees", 1, bench.frees(999));
            checks.due("part", side == 0 ? 998 : 0, bench.part(999, false));
            checks.due("different ones", 1000, bench.count(1));
            checks.due("join, in itself", false, bench.join(1, 999));
            checks.due("join", true, bench.join(1, 0));
            checks.due("different ones after it", 999, bench.count(1));
            checks.due("the least number of the free one", 0, bench.part(2, side == 1));
        }
    }
}
