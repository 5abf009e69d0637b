/** Rule 7 of LANGUAGE.md: no call throws by itself, even with 1,000 types and after 512 calls. */
public final class LongRunTest {
    private static final Checks checks = new Checks();

    public static void main(String[] args) {
        for (int run = 0; run < 60; run++) {
            mixedRun(run);
        }
        greatestChains();
        greatestFans();
        checks.finish();
    }

    private static void mixedRun(long run) {
        TypeBench bench = new TypeBench();
        long seed = run;
        for (int i = 0; i < 4000; i++) {
            seed = seed * 6364136223846793005L + 1442695040888963407L;
            int what = (int) ((seed >>> 33) % 24);
            int a = (int) ((seed >>> 20) & 1023) % (bench.count(0) + 1);
            int b = bench.count(0) - 1 - (int) ((seed >>> 50) % 7);
            Object answer = Checks.answerOf(() -> call(bench, what, a, b));
            boolean meant = !answer.toString().startsWith("throws.")
                    || answer.equals("throws." + Checks.NO_SUCH)
                    || answer.equals("throws." + Checks.ILLEGAL_STATE);
            checks.due("call " + what + " " + a + " " + b + ": " + answer, true, meant);
        }
    }

    private static Object call(TypeBench bench, int what, int a, int b) {
        return switch (what) {
            case 0 -> bench.same(a, b);
            case 1 -> bench.renamed(a, b);
            case 2 -> bench.kind(a);
            case 3 -> bench.part(b, true);
            case 4 -> bench.size(b);
            case 5 -> bench.values(b);
            case 6 -> bench.frees(b);
            case 7 -> bench.count(a - 1);
            case 8 -> bench.alike(a, b);
            case 9 -> bench.join(a, b);
            case 10, 11, 12, 13, 14 -> bench.sum(a, b);
            case 15, 16, 17, 18, 19 -> bench.pair(b, a);
            default -> bench.free();
        };
    }

    private static void greatestChains() {
        for (int shape = 0; shape < 3; shape++) {
            TypeBench bench = new TypeBench();
            int left = bench.free();
            int right = bench.free();
            int leaf = bench.free();
            for (int i = 0; i < 498; i++) {
                left = grown(bench, shape, left, leaf);
                right = grown(bench, shape, right, leaf);
            }
            checks.due("count(0)", 1000, bench.count(0));
            checks.due("chains renamed", true, bench.renamed(left, right));
            checks.due("chains alike", true, bench.alike(left, right));
            checks.due("chain into itself", false, bench.alike(1, left));
            checks.due("chains joined", true, bench.join(left, right));
            checks.due("different ones", 501, bench.count(1));
        }
    }

    private static int grown(TypeBench bench, int shape, int part, int leaf) {
        return shape == 0 ? bench.pair(part, part)
                : shape == 1 ? bench.pair(part, leaf) : bench.pair(leaf, part);
    }

    private static void greatestFans() {
        TypeBench bench = new TypeBench();
        int left = 0;
        int right = 0;
        for (int i = 0; i < 249; i++) {
            left = bench.sum(bench.free(), left);
            right = bench.sum(bench.free(), right);
        }
        checks.due("fans renamed", true, bench.renamed(left, right));
        checks.due("fans joined", true, bench.join(left, right));
        checks.due("free ones", 249, bench.count(2));
        checks.due("frees of the fan", 249, bench.frees(left));
        checks.due("size of the fan", 249, bench.size(right));
        checks.due("values of the fan", 250, bench.values(left));
    }
}
