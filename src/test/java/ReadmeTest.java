import java.io.IOException;
import java.lang.reflect.Method;
import java.lang.reflect.Modifier;
import java.nio.charset.StandardCharsets;
import java.nio.file.DirectoryStream;
import java.nio.file.Files;
import java.nio.file.Path;
import java.util.Set;
import java.util.TreeSet;
import java.util.regex.Matcher;
import java.util.regex.Pattern;

/** README.md tells all calls with what they take and throw, all tests, and a program that does what is said there. */
public final class ReadmeTest {
    private static final Pattern CALL = Pattern.compile("(?m)^\\| `(\\w+\\([^`]*\\))` \\| (.*) \\| ?(.*?) ?\\|$");
    private static final Pattern TEST = Pattern.compile("`(\\w+Test)`");
    private static final Pattern FACE = Pattern.compile("(?m)^    public (?:\\w+ )?(\\w+)\\(([^)]*)\\)");

    private final Check check = new Check();
    private final String readme = Files.readString(Path.of("README.md"));

    private ReadmeTest() throws IOException {
    }

    public static void main(String[] args) throws Exception {
        ReadmeTest all = new ReadmeTest();
        all.calls();
        all.tests();
        all.program();
        all.check.end();
    }

    // ---- The tables

    private void calls() throws IOException {
        Set<String> told = new TreeSet<>();
        Matcher rows = CALL.matcher(readme);
        while (rows.find()) {
            told.add(rows.group(1) + " throws " + rows.group(3));
            check.due("an answer of " + rows.group(1), rows.group(2).isBlank(), false);
        }
        check.due("calls", String.join("\n", told), String.join("\n", face()));
    }

    private static Set<String> face() throws IOException {
        Set<String> all = new TreeSet<>();
        Matcher calls = FACE.matcher(Files.readString(Path.of("../shared/DOC.md")));
        while (calls.find()) {
            String names = calls.group(2).replaceAll("\\w+ (\\w+)", "$1");
            all.add(calls.group(1) + "(" + names + ") throws " + thrownBy(calls.group(1)));
        }
        return all;
    }

    private static String thrownBy(String name) {
        StringBuilder names = new StringBuilder();
        for (Method call : Hintworks.class.getDeclaredMethods()) {
            if (Modifier.isPublic(call.getModifiers()) && call.getName().equals(name)) {
                for (Class<?> thrown : call.getExceptionTypes()) {
                    names.append(names.length() > 0 ? ", " : "");
                    names.append(thrown.getSimpleName().replaceAll("Exception$", ""));
                }
            }
        }
        return names.toString();
    }

    private void tests() throws IOException {
        Set<String> told = new TreeSet<>();
        Matcher names = TEST.matcher(readme.substring(readme.indexOf("| test |")));
        while (names.find()) {
            told.add(names.group(1));
        }
        Set<String> found = new TreeSet<>();
        try (DirectoryStream<Path> tests = Files.newDirectoryStream(Path.of("src/test/java"), "*Test.java")) {
            for (Path test : tests) {
                found.add(test.getFileName().toString().replace(".java", ""));
            }
        }
        check.due("tests", String.join("\n", told), String.join("\n", found));
    }

    // ---- The program, compiled and run as the page says

    private void program() throws Exception {
        Path place = Files.createTempDirectory("readme");
        Path file = place.resolve("FirstGame.java");
        Files.writeString(file, block("```java\n", 0));
        String out = place.toString();
        String faults = toldBy("javac", "-d", out, "src/main/java/Hintworks.java", file.toString());
        check.due("what the compiler tells of the program", faults, "");
        String want = block("```\n", readme.indexOf("and tells:"));
        check.due("what the program tells", toldBy("java", "-cp", out, "FirstGame"), want);
        try (DirectoryStream<Path> files = Files.newDirectoryStream(place)) {
            for (Path one : files) {
                Files.delete(one);
            }
        }
        Files.delete(place);
    }

    private String block(String fence, int from) {
        int start = readme.indexOf(fence, from) + fence.length();
        return readme.substring(start, readme.indexOf("```", start));
    }

    private static String toldBy(String... command) throws Exception {
        Process process = new ProcessBuilder(command).redirectError(ProcessBuilder.Redirect.INHERIT).start();
        String told = new String(process.getInputStream().readAllBytes(), StandardCharsets.UTF_8);
        int code = process.waitFor();
        return told.replace(System.lineSeparator(), "\n") + (code == 0 ? "" : "exit code " + code);
    }
}
