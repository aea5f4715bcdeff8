import java.lang.management.ManagementFactory;
import java.nio.file.Files;
import java.nio.file.Path;
import java.util.regex.Matcher;
import java.util.regex.Pattern;

/** Of LANGUAGE.md, what can be told from the text of the program and from what a run of it makes. */
public final class LanguageTest {
    private static final Path PROGRAM = Path.of("src/main/java/SettlementHouse.java");
    /** Far below the room for a run, which has place for several houses. */
    private static final long MOST_BYTES_A_RUN = 1000000;
    private static final long MOST_BYTES_NEW = 20000;

    public static void main(String[] args) throws Exception {
        String text = Files.readString(PROGRAM);
        String code = text.replaceAll("(?s)/\\*.*?\\*/", "").replaceAll("//[^\n]*", "");
        words(code);
        imports(code);
        methods(code);
        room();
        Bench.finish();
    }

    private static void words(String code) {
        String[] none = {"throw", "throws", "try", "catch", "synchronized", "assert", "package", "protected", "volatile", "transient",
            "native", "strictfp", "Exact", "->", "::", "hashCode", "@Override"};
        for (String word : none) {
            boolean there = Character.isLetter(word.charAt(0))
                ? Pattern.compile("\\b" + word + "\\b").matcher(code).find() : code.contains(word);
            Bench.due("the program has '" + word + "'", there, false);
        }
        Bench.due("classes", (int) Pattern.compile("\\bclass [A-Z]").matcher(code).results().count() <= 12, true);
        Bench.due("public members", (int) Pattern.compile("\\bpublic\\b").matcher(code).results().count(), 11);
    }

    private static void imports(String code) {
        Matcher m = Pattern.compile("import [^;]*;").matcher(code);
        while (m.find()) {
            Bench.due("import", m.group(), "import java.util.ArrayList;");
        }
    }

    /** None longer than some sixty lines, none of more than seven parameters. */
    private static void methods(String code) {
        Matcher m = Pattern.compile("(?m)^( +)[a-zA-Z][\\w<>\\[\\] ]*\\(([^)]*)\\) \\{$").matcher(code);
        int found = 0;
        while (m.find()) {
            if (m.group().trim().matches("(if|for|while|switch|else)\\b.*")) {
                continue;
            }
            found++;
            int end = code.indexOf("\n" + m.group(1) + "}", m.end());
            long lines = code.substring(m.end(), end).lines().count();
            Bench.due("lines of " + m.group().trim() + " " + lines, lines <= 60, true);
            Bench.due("parameters of " + m.group().trim(), m.group(2).split(",").length <= 7, true);
        }
        Bench.due("methods were found", found > 100, true);
    }

    private static void room() {
        com.sun.management.ThreadMXBean threads = (com.sun.management.ThreadMXBean) ManagementFactory.getThreadMXBean();
        // Once before it is measured, so that no class is loaded in between.
        dearestRun(new SettlementHouse());
        long before = threads.getCurrentThreadAllocatedBytes();
        SettlementHouse house = new SettlementHouse();
        long made = threads.getCurrentThreadAllocatedBytes();
        dearestRun(house);
        long after = threads.getCurrentThreadAllocatedBytes();
        Bench.due("bytes of a new object " + (made - before), made - before <= MOST_BYTES_NEW, true);
        Bench.due("bytes of a run " + (after - made), after - made <= MOST_BYTES_A_RUN, true);
    }

    /** What is kept most of: participants with a limit each, then instructions of four legs (what the test itself makes is counted, too). */
    private static void dearestRun(SettlementHouse house) {
        int calls = post(house, Bench.signed("ASTCBNKA0000000EURC" + Bench.amount(0) + "00"));
        for (int i = 0; i < 20; i++) {
            calls += post(house, Bench.signed("NEWCBNKN00000" + (10 + i) + "P1" + (10 + i)));
        }
        house.tick(100);
        for (int i = 0; calls < Bench.MOST_CALLS - 10; i++) {
            StringBuilder legs = new StringBuilder();
            for (int leg = 0; leg < 4; leg++) {
                legs.append(Bench.leg("P1" + (10 + i % 20), "P1" + (10 + (i + leg * 3 + 1) % 20), "EUR", 1 + leg));
            }
            calls += post(house, Bench.signed("PAYP1" + (10 + i % 20) + "X00000" + (10 + i) + "14" + legs));
        }
    }

    private static int post(SettlementHouse house, String text) {
        int calls = 1;
        for (int i = 0; i < text.length(); i += 20) {
            house.feed(word(text, i), word(text, i + 4), word(text, i + 8), word(text, i + 12), word(text, i + 16));
            calls++;
        }
        house.send(text.length());
        return calls;
    }

    private static int word(String text, int at) {
        int word = 0;
        for (int i = at; i < at + 4; i++) {
            word = word << 8 | (i < text.length() ? text.charAt(i) : 0);
        }
        return word;
    }
}
