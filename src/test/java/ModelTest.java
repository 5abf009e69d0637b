import java.util.ArrayList;
import java.util.HashMap;
import java.util.HashSet;
import java.util.List;
import java.util.Map;
import java.util.NoSuchElementException;
import java.util.Set;

/** Mixed runs of all calls against a model that does what the document says on plain trees. */
public final class ModelTest {
    private static final Checks checks = new Checks();
    private static final int SMALL_RUNS = 3000;
    private static final int WIDE_RUNS = 40;
    private static final int WIDE_CALLS = 400;
    /** Wide runs build on the first types alone, because the model's trees would grow too great. */
    private static final int WIDE_FIRST = 25;

    private long seed;
    private final int first;

    public static void main(String[] args) {
        for (int run = 0; run < SMALL_RUNS; run++) {
            ModelTest small = new ModelTest(run, Integer.MAX_VALUE);
            small.run("run " + run, 10 + small.number(40));
        }
        for (int run = 0; run < WIDE_RUNS; run++) {
            new ModelTest(run, WIDE_FIRST).run("wide run " + run, WIDE_CALLS);
        }
        checks.finish();
    }

    private ModelTest(int run, int first) {
        seed = run * 7919L + 17;
        this.first = first;
    }

    /** The same numbers in every run of the tests, so that a fault can be seen again. */
    private int number(int below) {
        seed = seed * 6364136223846793005L + 1442695040888963407L;
        return (int) ((seed >>> 33) % below);
    }

    private void run(String name, int calls) {
        TypeBench bench = new TypeBench();
        Model model = new Model();
        for (int i = 0; i < calls; i++) {
            oneCall(name + " call " + i, bench, model);
        }
        compareAll(name + " at the end", bench, model);
    }

    private void oneCall(String name, TypeBench bench, Model model) {
        int a = someType(model);
        int b = someType(model);
        switch (number(16)) {
            case 0, 1, 2 -> compare(name + " free()", bench::free, model::free);
            case 3, 4, 5 -> compare(name + " sum " + a + " " + b,
                    () -> bench.sum(a, b), () -> model.whole(2, a, b));
            case 6, 7, 8 -> compare(name + " pair " + a + " " + b,
                    () -> bench.pair(a, b), () -> model.whole(3, a, b));
            case 9, 10 -> compare(name + " join " + a + " " + b,
                    () -> bench.join(a, b), () -> model.join(a, b));
            case 11 -> compareSeldom(name, bench, model);
            case 12 -> clearSeldom(name, bench, model);
            default -> compareTwo(name, bench, model, a, b);
        }
    }

    private int someType(Model model) {
        int wide = number(30);
        int below = Math.min(first, model.types.size());
        return wide == 0 ? -1 : wide == 1 ? model.types.size() : number(below);
    }

    private void compareSeldom(String name, TypeBench bench, Model model) {
        if (number(4) == 0) {
            compareAll(name, bench, model);
        }
    }

    private void clearSeldom(String name, TypeBench bench, Model model) {
        if (number(first == WIDE_FIRST ? 100 : 8) == 0) {
            compare(name + " clear()", bench::clear, model::clear);
        }
    }

    private static void compareAll(String name, TypeBench bench, Model model) {
        for (int what = -1; what <= 3; what++) {
            int w = what;
            compare(name + " count " + w, () -> bench.count(w), () -> model.count(w));
        }
        for (int i = 0; i < model.types.size(); i++) {
            int a = i;
            compare(name + " kind " + a, () -> bench.kind(a), () -> model.at(a).kind);
            compare(name + " part 1 " + a, () -> bench.part(a, false), () -> model.part(a, false));
            compare(name + " part 2 " + a, () -> bench.part(a, true), () -> model.part(a, true));
            compare(name + " size " + a, () -> bench.size(a), () -> model.size(a));
            compare(name + " values " + a, () -> bench.values(a), () -> model.values(a));
            compare(name + " frees " + a, () -> bench.frees(a), () -> model.frees(a));
            for (int b = 0; b < Math.min(i, 12); b++) {
                compareTwo(name, bench, model, a, b);
                compareTwo(name, bench, model, b, a);
            }
        }
    }

    private static void compareTwo(String name, TypeBench bench, Model model, int a, int b) {
        String both = " " + a + " " + b;
        compare(name + " alike" + both, () -> bench.alike(a, b), () -> model.alike(a, b));
        compare(name + " same" + both, () -> bench.same(a, b), () -> model.same(a, b));
        compare(name + " renamed" + both, () -> bench.renamed(a, b), () -> model.renamed(a, b));
    }

    private static void compare(String call, Checks.Call program, Checks.Call model) {
        checks.due(call, Checks.answerOf(model), Checks.answerOf(program));
    }

    /** A tree whose free leaves are bound one after the other. */
    private static final class Tree {
        private final int kind;
        private final Tree first;
        private final Tree second;
        private Tree bound;

        private Tree(int kind, Tree first, Tree second) {
            this.kind = kind;
            this.first = first;
            this.second = second;
        }

        private Tree now() {
            return bound == null ? this : bound.now();
        }

        private boolean whole() {
            return kind >= 2;
        }
    }

    private static final class Model {
        private final List<Tree> types = new ArrayList<>();

        private Model() {
            clear();
        }

        private int clear() {
            int were = types.size();
            types.clear();
            types.add(new Tree(1, null, null));
            return were;
        }

        private Tree at(int a) {
            if (a < 0 || a >= types.size()) {
                throw new NoSuchElementException();
            }
            return types.get(a).now();
        }

        private int free() {
            types.add(new Tree(0, null, null));
            return types.size() - 1;
        }

        private int whole(int kind, int a, int b) {
            types.add(new Tree(kind, at(a), at(b)));
            return types.size() - 1;
        }

        private boolean join(int a, int b) {
            List<Tree> trail = new ArrayList<>();
            boolean done = unify(at(a), at(b), trail);
            if (!done) {
                trail.forEach(t -> t.bound = null);
            }
            return done;
        }

        private boolean alike(int a, int b) {
            List<Tree> trail = new ArrayList<>();
            boolean done = unify(at(a), at(b), trail);
            trail.forEach(t -> t.bound = null);
            return done;
        }

        private static boolean unify(Tree left, Tree right, List<Tree> trail) {
            Tree x = left.now();
            Tree y = right.now();
            if (x == y) {
                return true;
            }
            if (x.kind == 0 || y.kind == 0) {
                Tree free = x.kind == 0 ? x : y;
                Tree other = x.kind == 0 ? y : x;
                if (holds(other, free)) {
                    return false;
                }
                free.bound = other;
                trail.add(free);
                return true;
            }
            return x.kind == y.kind && (!x.whole()
                    || unify(x.first, y.first, trail) && unify(x.second, y.second, trail));
        }

        private static boolean holds(Tree tree, Tree free) {
            Tree x = tree.now();
            return x == free || x.whole() && (holds(x.first, free) || holds(x.second, free));
        }

        private boolean same(int a, int b) {
            return equal(at(a), at(b));
        }

        private static boolean equal(Tree left, Tree right) {
            Tree x = left.now();
            Tree y = right.now();
            return x == y || x.whole() && x.kind == y.kind
                    && equal(x.first, y.first) && equal(x.second, y.second);
        }

        private boolean renamed(int a, int b) {
            return match(at(a), at(b), new HashMap<>(), new HashMap<>());
        }

        private static boolean match(
                Tree left, Tree right, Map<Tree, Tree> to, Map<Tree, Tree> from) {
            Tree x = left.now();
            Tree y = right.now();
            if (x.kind != y.kind) {
                return false;
            }
            if (x.kind == 0) {
                Tree earlier = to.put(x, y);
                Tree back = from.put(y, x);
                return (earlier == null || earlier == y) && (back == null || back == x);
            }
            return !x.whole()
                    || match(x.first, y.first, to, from) && match(x.second, y.second, to, from);
        }

        private int part(int a, boolean second) {
            Tree x = at(a);
            if (!x.whole()) {
                throw new NoSuchElementException();
            }
            int least = 0;
            while (!equal(types.get(least), second ? x.second : x.first)) {
                least++;
            }
            return least;
        }

        private int size(int a) {
            return (int) Math.min(sizeOf(at(a)), 1000000L);
        }

        private static long sizeOf(Tree tree) {
            Tree x = tree.now();
            if (!x.whole()) {
                return 0;
            }
            long first = sizeOf(x.first);
            long second = sizeOf(x.second);
            return x.kind == 2 ? 1 + Math.max(first, second) : first + second;
        }

        private int values(int a) {
            return (int) valuesOf(at(a));
        }

        private static long valuesOf(Tree tree) {
            Tree x = tree.now();
            if (!x.whole()) {
                return 1;
            }
            long first = valuesOf(x.first);
            long second = valuesOf(x.second);
            return Math.min(x.kind == 2 ? first + second : first * second, 1L << 30);
        }

        private int frees(int a) {
            Set<Tree> found = new HashSet<>();
            collect(at(a), found);
            return found.size();
        }

        private static void collect(Tree tree, Set<Tree> found) {
            Tree x = tree.now();
            if (x.kind == 0) {
                found.add(x);
            } else if (x.whole()) {
                collect(x.first, found);
                collect(x.second, found);
            }
        }

        private int count(int what) {
            if (what < 0 || what > 2) {
                return -1;
            }
            List<Tree> different = new ArrayList<>();
            for (Tree t : types) {
                if (different.stream().noneMatch(d -> equal(d, t))) {
                    different.add(t.now());
                }
            }
            int frees = (int) different.stream().filter(d -> d.kind == 0).count();
            return what == 0 ? types.size() : what == 1 ? different.size() : frees;
        }
    }
}
