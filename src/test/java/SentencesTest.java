import java.io.IOException;
import java.nio.file.DirectoryStream;
import java.nio.file.Files;
import java.nio.file.Path;
import java.util.Set;
import java.util.TreeSet;
import java.util.regex.Matcher;
import java.util.regex.Pattern;

/** Each paragraph of the document's terms and each promise is gone through, sentence by sentence, by some test. */
public final class SentencesTest {
    private static final Pattern PART = Pattern.compile("said\\.part\\(\"([^\"]+)\"\\)");
    private static final Pattern PROMISE = Pattern.compile("(?m)^## (Promise \\d+: .+)$");

    private SentencesTest() {
    }

    public static void main(String[] args) throws IOException {
        Check check = new Check();
        String document = Files.readString(Path.of("../shared/DOC.md"));
        Set<String> due = new TreeSet<>();
        Matcher promises = PROMISE.matcher(document);
        while (promises.find()) {
            due.add(promises.group(1));
        }
        check.due("promises of the document", due.size(), 44);
        int terms = document.indexOf("## Terms\n") + "## Terms\n".length();
        for (String paragraph : document.substring(terms, document.indexOf("\n## ", terms)).strip().split("\n\n")) {
            // These lines tell under which headings the calls stand.
            if (!paragraph.startsWith("Ahead of the calls")) {
                due.add(nameOf(paragraph));
            }
        }
        check.due("parts that are gone through", String.join("\n", gone()), String.join("\n", due));
        check.end();
    }

    private static String nameOf(String paragraph) {
        String first = paragraph.split("\\s+")[0];
        // One paragraph has no name; it is told by its first words.
        return first.endsWith(".") ? first.substring(0, first.length() - 1) : paragraph.split("\\s+and\\s+")[0]
                .replace('\n', ' ');
    }

    private static Set<String> gone() throws IOException {
        Set<String> parts = new TreeSet<>();
        try (DirectoryStream<Path> tests = Files.newDirectoryStream(Path.of("src/test/java"), "EdgesOf*Test.java")) {
            for (Path test : tests) {
                Matcher part = PART.matcher(Files.readString(test));
                while (part.find()) {
                    parts.add(part.group(1));
                }
            }
        }
        return parts;
    }
}
