import java.io.File;
import java.io.IOException;
import java.lang.reflect.Method;
import java.lang.reflect.Modifier;
import java.nio.charset.StandardCharsets;
import java.nio.file.Files;
import java.nio.file.Paths;
import java.util.ArrayList;
import java.util.List;
import java.util.Set;
import java.util.TreeSet;

/** What README.md says of the class and of its tests; run in the project's directory. */
public final class ReadmeTest {
    private static final String TESTS = "src/test/java";
    private static final Bench BENCH = new Bench("ReadmeTest");

    public static void main(String[] args) throws IOException {
        theExampleOfARun();
        theExampleOfTheDesk();
        theExamplesAreThese();
        theCalls();
        theTests();
        theClasses();
        BENCH.end();
    }

    // ---- the examples, as they stand in README.md

    private static void theExampleOfARun() {
        IndexedCompiler c = new IndexedCompiler();
        tell(c, "fun get{n}(a: row(n), k: int{i | 0 <= i & i < n}): int = a[k]");
        int f = c.define();            // 0, its number (else SIGN or SAME, and place() tells where; or FULL)
        int ok = c.check();            // 1, ACCEPTED (0 if a GOAL of sorts 2 to 4 is not PROVED; else the first fault)
        int free = c.count(4);         // 1, so many accesses are FREE
        int checked = c.code(f, 0, 4); // 10, the code of a get
        int left = c.code(f, 1, 4);    // 11, that of a get that does not look
        c.make(0, 3);                  // SLOTS are the PARAMETERS of a RUN: a is a row of three zeros,
        c.put(0, 1, 42);               // its number 1 is 42,
        c.set(1, 1);                   // k is 1,
        c.value(0, 3);                 // and VALUES are its INDEX NAMES: n is 3
        int end = c.run(f, 1, 20000);  // 1, it came to its end (else UNFIT or a fault)
        int answer = c.told(1);        // 42
        int looked = c.told(3);        // 0, so many checks were made
        BENCH.due("f", f, 0);
        BENCH.due("ok", ok, 1);
        BENCH.due("free", free, 1);
        BENCH.due("checked", checked, 10);
        BENCH.due("left", left, 11);
        BENCH.due("end", end, 1);
        BENCH.due("answer", answer, 42);
        BENCH.due("looked", looked, 0);
    }

    static void tell(IndexedCompiler c, String text) {
        c.erase();
        for (int from = 0; from < text.length(); from += 20) {
            int[] five = new int[5];
            for (int k = 0; k < 20 && from + k < text.length(); k++) {
                five[k / 4] |= text.charAt(from + k) << (24 - 8 * (k % 4));
            }
            c.type(five[0], five[1], five[2], five[3], five[4]);
        }
    }

    private static void theExampleOfTheDesk() {
        IndexedCompiler desk = new IndexedCompiler();
        desk.fact(1, 0, 0, 0);                    // v0 is not below 0
        int facts = desk.fact(-2, 0, 0, 7);       // 2, so many FACTS; 7 - 2 v0 is not below 0
        boolean three = desk.ask(-1, 0, 0, 3);    // true, v0 is at most 3
        boolean two = desk.ask(-1, 0, 0, 2);      // false
        BENCH.due("facts", facts, 2);
        BENCH.due("three", three, true);
        BENCH.due("two", two, false);
    }

    private static void theExamplesAreThese() throws IOException {
        BENCH.sentence("the examples of README.md are those that are run here");
        String own = trimmed(lines(TESTS + "/ReadmeTest.java"));
        List<List<String>> examples = javaBlocks();
        BENCH.due("examples", examples.size(), 3);
        for (List<String> each : examples) {
            BENCH.due("'" + each.get(0) + "' and what follows stands here", own.contains(trimmed(each)), true);
        }
    }

    private static List<List<String>> javaBlocks() throws IOException {
        List<List<String>> blocks = new ArrayList<>();
        boolean inside = false;
        for (String line : lines("README.md")) {
            if (line.equals("```java")) {
                blocks.add(new ArrayList<>());
                inside = true;
            } else if (line.equals("```")) {
                inside = false;
            } else if (inside) {
                blocks.get(blocks.size() - 1).add(line);
            }
        }
        return blocks;
    }

    private static String trimmed(List<String> lines) {
        StringBuilder text = new StringBuilder("\n");
        for (String line : lines) {
            text.append(line.trim()).append('\n');
        }
        return text.toString();
    }

    // ---- what is named

    private static void theCalls() throws IOException {
        BENCH.sentence("the table of calls has every one, and no other");
        Set<String> there = new TreeSet<>();
        for (Method method : IndexedCompiler.class.getDeclaredMethods()) {
            if (Modifier.isPublic(method.getModifiers())) {
                there.add(method.getName());
            }
        }
        dueSame(namedInTable("calls"), there);
    }

    private static void theTests() throws IOException {
        BENCH.sentence("every test of the project is named, and no other");
        Set<String> there = new TreeSet<>();
        for (String file : filesOf(TESTS)) {
            if (file.endsWith("Test.java")) {
                there.add(file.substring(0, file.length() - ".java".length()));
            } else {
                BENCH.due(file + " is what the tests share", file.equals("Bench.java"), true);
            }
        }
        Set<String> named = new TreeSet<>();
        for (String line : lines("README.md")) {
            for (String word : quoted(line)) {
                if (word.matches("[A-Za-z]+Test")) {
                    named.add(word);
                }
            }
        }
        dueSame(named, there);
    }

    private static void theClasses() throws IOException {
        BENCH.sentence("the table of classes has every one, and no other; the class is one file");
        Set<String> there = new TreeSet<>();
        there.add("IndexedCompiler");
        for (Class<?> each : IndexedCompiler.class.getDeclaredClasses()) {
            there.add(each.getSimpleName());
        }
        dueSame(namedInTable("class"), there);
        dueSame(filesOf("src/main/java"), Set.of("IndexedCompiler.java"));
    }

    private static void dueSame(Set<String> named, Set<String> there) {
        for (String each : there) {
            BENCH.due(each + " is named", named.contains(each), true);
        }
        for (String each : named) {
            BENCH.due(each + " is there", there.contains(each), true);
        }
    }

    /** What stands between ` ` in the first column of the table with that title. */
    private static Set<String> namedInTable(String title) throws IOException {
        Set<String> named = new TreeSet<>();
        boolean inside = false;
        for (String line : lines("README.md")) {
            String[] columns = line.split("\\|");
            if (line.startsWith("| " + title + " |")) {
                inside = true;
            } else if (!line.startsWith("|")) {
                inside = false;
            } else if (inside && columns.length > 1) {
                named.addAll(quoted(columns[1]));
            }
        }
        return named;
    }

    private static List<String> quoted(String line) {
        List<String> words = new ArrayList<>();
        String[] parts = line.split("`");
        for (int k = 1; k < parts.length; k += 2) {
            words.add(parts[k]);
        }
        return words;
    }

    private static Set<String> filesOf(String directory) {
        String[] names = new File(directory).list();
        BENCH.due("there is " + directory, names != null, true);
        return names == null ? Set.of() : new TreeSet<>(List.of(names));
    }

    private static List<String> lines(String file) throws IOException {
        return Files.readAllLines(Paths.get(file), StandardCharsets.UTF_8);
    }
}
