import java.io.ByteArrayOutputStream;
import java.io.PrintStream;
import java.nio.file.Files;
import java.nio.file.Path;
import java.util.stream.Stream;

/** README.md shows how to use the class: what it shows is what comes. */
public final class ReadmeTest {
    private static final Path TESTS = Path.of("src/test/java");
    private static final String[] CALLS = {"new SettlementHouse()", "boolean feed(int a, int b, int c, int d, int e)",
        "int send(int n)", "int tick(int n)", "long fetch()", "boolean charge(int n)", "int start()",
        "long position(int p, int a)", "int count(int what)", "int broken()"};

    public static void main(String[] args) throws Exception {
        String readme = Files.readString(Path.of("README.md"));
        example(readme);
        calls(readme);
        tests(readme);
        Bench.finish();
    }

    private static void example(String readme) throws Exception {
        Bench.due("the example that README.md shows", block(readme, "java"), Files.readString(TESTS.resolve("Example.java")));
        Bench.due("what README.md says that it prints", block(readme, "text"), printedByExample());
    }

    private static String printedByExample() {
        PrintStream before = System.out;
        ByteArrayOutputStream bytes = new ByteArrayOutputStream();
        System.setOut(new PrintStream(bytes));
        Example.main(new String[0]);
        System.out.flush();
        System.setOut(before);
        return bytes.toString().replace(System.lineSeparator(), "\n");
    }

    private static String block(String readme, String language) {
        String head = "```" + language + "\n";
        int begin = readme.indexOf(head);
        int end = begin < 0 ? -1 : readme.indexOf("```", begin + head.length());
        return end < 0 ? "" : readme.substring(begin + head.length(), end);
    }

    private static void calls(String readme) {
        for (String call : CALLS) {
            Bench.due("README.md names " + call, readme.contains("| `" + call + "` |"), true);
        }
    }

    private static void tests(String readme) throws Exception {
        try (Stream<Path> files = Files.list(TESTS)) {
            for (Path file : files.sorted().toList()) {
                String name = file.getFileName().toString().replace(".java", "");
                Bench.due("README.md names " + name, readme.contains(name), true);
            }
        }
    }
}
