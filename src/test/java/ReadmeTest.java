import java.io.IOException;
import java.nio.file.Files;
import java.nio.file.Path;

/** The example in README.md: each of its lines stands there, and answers what it says. */
public final class ReadmeTest {
    private static final Checks checks = new Checks();

    public static void main(String[] args) throws IOException {
        String readme = Files.readString(Path.of("README.md"));
        TypeBench bench = new TypeBench();
        line(readme, "int f = bench.free();", "1", bench.free());
        line(readme, "int holder = bench.pair(f, f);", "2", bench.pair(1, 1));
        line(readme, "int two = bench.sum(0, 0);", "3", bench.sum(0, 0));
        line(readme, "bench.join(f, holder);", "false", bench.join(1, 2));
        line(readme, "bench.alike(f, two);", "true", bench.alike(1, 3));
        line(readme, "bench.join(f, two);", "true", bench.join(1, 3));
        line(readme, "bench.kind(f);", "2", bench.kind(1));
        line(readme, "bench.values(holder);", "4", bench.values(2));
        line(readme, "bench.part(holder, true);", "1", bench.part(2, true));
        line(readme, "bench.count(1);", "3", bench.count(1));
        line(readme, "bench.clear();", "4", bench.clear());
        checks.finish();
    }

    private static void line(String readme, String call, String answer, Object got) {
        checks.due(call, answer, got.toString());
        boolean stands = readme.lines().anyMatch(row -> row.startsWith(call)
                && row.substring(call.length()).strip().startsWith("// " + answer));
        checks.due("README.md tells " + call, true, stands);
    }
}
