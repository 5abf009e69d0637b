import java.util.ArrayList;
import java.util.HashSet;
import java.util.List;
import java.util.Set;

/**
 * Every run of a few makings and joins, in every order and with every number, so that none is left
 * to chance. Here a type is a text: 1 is ONE, a letter is a free one, +xy is SUM and *xy is PAIR,
 * and to make a free one the same as another type is to put that type's text for its letter.
 */
public final class EveryRunTest {
    private static final Checks checks = new Checks();
    private static final String ONE = "1";

    private final int mostFrees;
    private final int mostWholes;
    private final int mostJoins;
    private final List<Call> calls = new ArrayList<>();

    private record Call(String name, int a, int b) {
        boolean madeOn(TypeBench bench) {
            return switch (name) {
                case "free" -> bench.free() > 0;
                case "sum" -> bench.sum(a, b) > 0;
                case "pair" -> bench.pair(a, b) > 0;
                default -> bench.join(a, b);
            };
        }
    }

    private record Equation(String left, String right) { }

    public static void main(String[] args) {
        new EveryRunTest(1, 2, 2).makeFree(List.of(ONE), 0);
        new EveryRunTest(2, 2, 1).makeFree(List.of(ONE), 0);
        checks.finish();
    }

    private EveryRunTest(int mostFrees, int mostWholes, int mostJoins) {
        this.mostFrees = mostFrees;
        this.mostWholes = mostWholes;
        this.mostJoins = mostJoins;
    }

    private void makeFree(List<String> types, int frees) {
        if (frees == mostFrees) {
            goOn(types, 0, 0);
            return;
        }
        calls.add(new Call("free", 0, 0));
        makeFree(with(types, String.valueOf((char) ('a' + frees))), frees + 1);
        calls.remove(calls.size() - 1);
    }

    private void goOn(List<String> types, int wholes, int joins) {
        lookAtAll(types, replayed());
        for (int a = 0; a < types.size(); a++) {
            for (int b = 0; b < types.size(); b++) {
                if (wholes < mostWholes) {
                    makeWhole("sum", "+", types, a, b, wholes, joins);
                    makeWhole("pair", "*", types, a, b, wholes, joins);
                }
                if (joins < mostJoins && wholes > 0) {
                    join(types, a, b, wholes, joins);
                }
            }
        }
    }

    private void makeWhole(
            String name, String sign, List<String> types, int a, int b, int wholes, int joins) {
        calls.add(new Call(name, a, b));
        goOn(with(types, sign + types.get(a) + types.get(b)), wholes + 1, joins);
        calls.remove(calls.size() - 1);
    }

    private void join(List<String> types, int a, int b, int wholes, int joins) {
        List<String> after = new ArrayList<>(types);
        boolean can = madeTheSame(after, types.get(a), types.get(b));
        TypeBench bench = replayed();
        due("alike", a, b, can, bench.alike(a, b));
        lookAtAll(types, bench);
        due("join", a, b, can, bench.join(a, b));
        lookAtAll(can ? after : types, bench);
        // A type joined with itself goes on as if it had not been.
        if (can && a != b) {
            calls.add(new Call("join", a, b));
            goOn(after, wholes, joins + 1);
            calls.remove(calls.size() - 1);
        }
    }

    /** The types are worth nothing any more if the answer is false. */
    private static boolean madeTheSame(List<String> types, String a, String b) {
        List<Equation> left = new ArrayList<>(List.of(new Equation(a, b)));
        while (!left.isEmpty()) {
            Equation e = left.remove(0);
            String x = isFree(e.left) ? e.left : e.right;
            String y = isFree(e.left) ? e.right : e.left;
            if (x.equals(y)) {
                continue;
            }
            if (isFree(x)) {
                if (y.contains(x)) {
                    return false;
                }
                types.replaceAll(t -> t.replace(x, y));
                left.replaceAll(q -> new Equation(q.left.replace(x, y), q.right.replace(x, y)));
            } else if (isWhole(x) && x.charAt(0) == y.charAt(0)) {
                left.add(new Equation(part(x, false), part(y, false)));
                left.add(new Equation(part(x, true), part(y, true)));
            } else {
                return false;
            }
        }
        return true;
    }

    private TypeBench replayed() {
        TypeBench bench = new TypeBench();
        for (Call call : calls) {
            due(call.name, call.a, call.b, true, call.madeOn(bench));
        }
        return bench;
    }

    private void due(String call, int a, int b, Object want, Object got) {
        // The name is written out only for what is wrong: there are too many calls.
        checks.due(want.equals(got) ? call : calls + ": " + call + " " + a + " " + b, want, got);
    }

    private void lookAtAll(List<String> types, TypeBench bench) {
        Set<String> different = new HashSet<>(types);
        due("count", 0, 0, types.size(), bench.count(0));
        due("count", 1, 0, different.size(), bench.count(1));
        due("count", 2, 0, (int) different.stream().filter(t -> isFree(t)).count(), bench.count(2));
        for (int a = 0; a < types.size(); a++) {
            lookAtOne(types, a, bench);
            for (int b = 0; b < types.size(); b++) {
                String x = types.get(a);
                String y = types.get(b);
                due("same", a, b, x.equals(y), bench.same(a, b));
                due("renamed", a, b, lettersInOrder(x).equals(lettersInOrder(y)),
                        bench.renamed(a, b));
            }
        }
    }

    private void lookAtOne(List<String> types, int a, TypeBench bench) {
        String x = types.get(a);
        due("kind", a, 0, "1+*".indexOf(x.charAt(0)) + 1, bench.kind(a));
        due("size", a, 0, size(x), bench.size(a));
        due("values", a, 0, values(x), bench.values(a));
        due("frees", a, 0, (int) x.chars().filter(c -> Character.isLetter(c)).distinct().count(),
                bench.frees(a));
        for (boolean second : new boolean[] {false, true}) {
            Object want = isWhole(x) ? types.indexOf(part(x, second)) : "throws." + Checks.NO_SUCH;
            due("part", a, second ? 1 : 0, want, Checks.answerOf(() -> bench.part(a, second)));
        }
    }

    private static List<String> with(List<String> types, String type) {
        List<String> more = new ArrayList<>(types);
        more.add(type);
        return more;
    }

    private static boolean isFree(String type) {
        return Character.isLetter(type.charAt(0));
    }

    private static boolean isWhole(String type) {
        return !isFree(type) && !type.equals(ONE);
    }

    private static String part(String whole, boolean second) {
        int middle = endOf(whole, 1);
        return second ? whole.substring(middle) : whole.substring(1, middle);
    }

    private static int endOf(String text, int start) {
        char sign = text.charAt(start);
        return sign == '+' || sign == '*' ? endOf(text, endOf(text, start + 1)) : start + 1;
    }

    /** Two texts are one to one if they differ in nothing but how their letters are called. */
    private static String lettersInOrder(String type) {
        int[] letters = type.chars().filter(c -> Character.isLetter(c)).distinct().toArray();
        String text = type;
        for (int i = 0; i < letters.length; i++) {
            text = text.replace((char) letters[i], (char) ('A' + i));
        }
        return text;
    }

    private static int size(String type) {
        if (!isWhole(type)) {
            return 0;
        }
        int first = size(part(type, false));
        int second = size(part(type, true));
        return type.charAt(0) == '+' ? 1 + Math.max(first, second) : first + second;
    }

    private static int values(String type) {
        if (!isWhole(type)) {
            return 1;
        }
        int first = values(part(type, false));
        int second = values(part(type, true));
        return type.charAt(0) == '+' ? first + second : first * second;
    }
}
