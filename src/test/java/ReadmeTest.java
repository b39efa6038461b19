import java.io.IOException;
import java.nio.file.Files;
import java.nio.file.Path;
import java.util.TreeSet;
import java.util.regex.Matcher;
import java.util.regex.Pattern;
import java.util.stream.Stream;

/** README.md: its example answers what it says, and it names every call and every test. */
public final class ReadmeTest {
    private static final Check CHECK = new Check("ReadmeTest");
    private static final Pattern CALL = Pattern.compile("disk\\.(\\w+)\\(([^)]*)\\);\\s*// (-?\\w+)(:.*)?");

    public static void main(String[] args) throws IOException {
        String page = Files.readString(Path.of("README.md"));
        TreeSet<String> shown = example(page);
        for (String[] names : new String[][] {Calls.ACTS, Calls.QUESTIONS}) {
            for (String name : names) {
                CHECK.due("the example calls " + name, shown.contains(name), true);
                CHECK.due("the table has " + name, page.contains("| `" + name + "("), true);
            }
        }
        tests(page);
        CHECK.close();
    }

    private static TreeSet<String> example(String page) {
        TreeSet<String> shown = new TreeSet<>();
        int from = page.indexOf("```java\n");
        int to = page.indexOf("```\n", from + 1);
        CHECK.due("there is an example", from >= 0 && to > from, true);
        ClickingDisk disk = new ClickingDisk();
        for (String line : page.substring(Math.max(0, from), Math.max(0, Math.max(from, to))).split("\n")) {
            if (!line.startsWith("disk.")) {
                continue;
            }
            Matcher m = CALL.matcher(line);
            CHECK.due("a call with its answer: " + line, m.matches(), true);
            if (m.matches()) {
                shown.add(m.group(1));
                CHECK.due(line, Calls.on(disk, m.group(1), numbers(m.group(2))), answer(m.group(3)));
            }
        }
        return shown;
    }

    private static int[] numbers(String told) {
        if (told.isBlank()) {
            return new int[0];
        }
        String[] parts = told.split(",");
        int[] out = new int[parts.length];
        for (int i = 0; i < out.length; i++) {
            out[i] = Integer.decode(parts[i].trim());
        }
        return out;
    }

    private static int answer(String told) {
        return told.equals("true") ? 1 : told.equals("false") ? 0 : Integer.parseInt(told);
    }

    private static void tests(String page) throws IOException {
        CHECK.due("how to run the tests", page.contains("`.ci/run`"), true);
        try (Stream<Path> files = Files.list(Path.of("src/test/java"))) {
            for (Path file : files.filter(f -> f.toString().endsWith("Test.java")).toList()) {
                String name = file.getFileName().toString().replace(".java", "");
                CHECK.due("the page names " + name, page.contains("| " + name + " |"), true);
            }
        }
    }
}
