import java.io.IOException;
import java.nio.file.Files;
import java.nio.file.Path;
import java.util.ArrayList;
import java.util.List;
import java.util.TreeSet;
import java.util.regex.Matcher;
import java.util.regex.Pattern;
import java.util.stream.Stream;

/** The words that tests quote stand in the document, and no word of "Terms" or of a promise is left without a test that quotes it. */
public final class QuotesTest {
    private static final Path DOCUMENT = Path.of("../shared/DOC.md");
    private static final Check CHECK = new Check("QuotesTest");

    public static void main(String[] args) throws IOException {
        TreeSet<String> quotes = quotes();
        CHECK.due("there are quotes", quotes.size() > 50, true);
        if (Files.isReadable(DOCUMENT)) {
            compare(Files.readString(DOCUMENT).replaceAll("\\s+", " "), quotes);
        }
        CHECK.close();
    }

    private static TreeSet<String> quotes() throws IOException {
        TreeSet<String> out = new TreeSet<>();
        Pattern says = Pattern.compile("CHECK\\.says\\(\"([^\"]*)\"\\)");
        try (Stream<Path> files = Files.list(Path.of("src/test/java"))) {
            for (Path file : files.filter(f -> f.toString().endsWith("Test.java")).toList()) {
                Matcher m = says.matcher(Files.readString(file));
                while (m.find()) {
                    out.add(m.group(1));
                }
            }
        }
        return out;
    }

    private static void compare(String document, TreeSet<String> quotes) {
        boolean[] quoted = new boolean[document.length()];
        for (String words : quotes) {
            int at = document.indexOf(words);
            CHECK.due("the document says [" + words + "]", at >= 0, true);
            while (at >= 0) {
                java.util.Arrays.fill(quoted, at, at + words.length(), true);
                at = document.indexOf(words, at + 1);
            }
        }
        for (String part : parts(document)) {
            StringBuilder rest = new StringBuilder();
            int from = document.indexOf(part);
            for (int i = 0; i < part.length(); i++) {
                rest.append(quoted[from + i] ? '#' : part.charAt(i));
            }
            String left = rest.toString().replaceFirst("^## (Terms|Promise \\d+: [\\w ]+)", "").replaceAll("==== \\d\\.|```text", "")
                .replaceFirst("`(int|boolean) \\w+\\([\\w, ]*\\)`:", "").replaceAll("#+", "#");
            CHECK.due("all is quoted but <" + left + ">", left.matches("[^\\w]*"), true);
        }
    }

    /** Terms with what is refused, and each promise. */
    private static List<String> parts(String document) {
        List<String> out = new ArrayList<>();
        String[] heads = document.substring(0, document.indexOf("## Not promised")).split("(?=## )");
        for (String head : heads) {
            if (head.startsWith("## Terms") || head.startsWith("## Promise")) {
                out.add(head);
            }
        }
        CHECK.due("Terms and 23 promises", out.size(), 24);
        return out;
    }
}
