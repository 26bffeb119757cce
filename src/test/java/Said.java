import java.io.IOException;
import java.nio.file.Files;
import java.nio.file.Path;
import java.util.LinkedHashMap;
import java.util.Map;
import java.util.function.BiFunction;
import java.util.function.Function;
import java.util.function.Supplier;

/**
 * Tests by the sentences of the document: each is named by the words that it holds the class to, these have to
 * stand in the document, and at the end no word of the parts that were gone through may be left without a test.
 */
final class Said {
    private static final String TERMS = "## Terms";

    private final String document;
    private final Check check = new Check();
    private final Map<String, boolean[]> told = new LinkedHashMap<>();
    private String part = "";
    private String text = "";

    Said() throws IOException {
        document = Files.readString(Path.of("../shared/DOC.md"));
    }

    Check check() {
        return check;
    }

    /** Goes on to a part of the document: a paragraph of its terms by the first word, or a promise by its heading. */
    void part(String name) {
        part = name;
        text = name.startsWith("Promise ") ? promise(name) : paragraph(name);
        check.due("the document has the part " + name, text.isEmpty(), false);
        told.put(name, new boolean[text.length()]);
    }

    private String promise(String name) {
        String[] lines = section("## " + name + "\n").split("\n");
        StringBuilder rest = new StringBuilder();
        for (String line : lines) {
            // The line of the signature is what FaceTest looks at.
            boolean isSignature = line.startsWith("`") && line.contains(name.substring(name.indexOf(':') + 2) + "(");
            rest.append(isSignature ? line.replaceFirst("^`[^`]*`:?", "") : line).append('\n');
        }
        return spaced(rest.toString());
    }

    private String paragraph(String name) {
        for (String one : section(TERMS + "\n").strip().split("\n\n")) {
            if (one.startsWith(name + ". ")) {
                return spaced(one.substring(name.length() + 2));
            }
            if (one.startsWith(name + " ")) {
                return spaced(one);
            }
        }
        return "";
    }

    private String section(String heading) {
        int start = document.indexOf(heading);
        if (start < 0) {
            return "";
        }
        int behind = start + heading.length();
        int end = document.indexOf("\n## ", behind);
        return document.substring(behind, end < 0 ? document.length() : end);
    }

    private static String spaced(String words) {
        return words.replaceAll("\\s+", " ").trim();
    }

    /** Runs the test of some words of the part. */
    void test(String words, Runnable test) {
        check.about("");
        check.due(part + " says " + words, text.contains(words), true);
        boolean[] marks = told.get(part);
        for (int at = text.indexOf(words); at >= 0; at = text.indexOf(words, at + 1)) {
            java.util.Arrays.fill(marks, at, at + words.length(), true);
        }
        check.about(part + " \"" + words + "\": ");
        try {
            test.run();
        } catch (RuntimeException thrown) {
            check.due("the test", thrown, "an end");
        }
        check.about("");
    }

    /** Tests that of a call's numbers the first and the last one are taken, and those beside them and far off not. */
    void numbers(String words, Supplier<Hintworks> made, int first, int last, Class<?> refusal,
            BiFunction<Hintworks, Integer, Object> call) {
        test(words, () -> {
            for (int number : new int[] {first, last}) {
                check.taken(made, String.valueOf(number), x -> call.apply(x, number));
            }
            for (int number : new int[] {first - 1, last + 1, Integer.MIN_VALUE, Integer.MAX_VALUE}) {
                check.refused(refusal, made, String.valueOf(number), x -> call.apply(x, number));
            }
        });
    }

    /** Tests that a call is refused ahead of the start of a game, and behind its end. */
    void turnsOnly(String words, Function<Hintworks, Object> call) {
        test(words, () -> {
            check.refused(Check.STATE, Hintworks::new, "not started", call);
            check.refused(Check.STATE, () -> Games.laid(4, 5), "not started, of four", call);
            check.refused(Check.STATE, Games::overByStrikes, "over by the third strike", call);
            check.refused(Check.STATE, Games::overAsWhole, "over as all suits are whole", call);
            check.refused(Check.STATE, Games::overByCards, "over as each has had a turn", call);
        });
    }

    /** Tests that a call is refused ahead of the start of a game, and answers from then on, behind its end too. */
    void startedOnly(String words, Function<Hintworks, Object> call) {
        test(words, () -> {
            check.refused(Check.STATE, Hintworks::new, "not started", call);
            check.refused(Check.STATE, () -> Games.laid(4, 5), "not started, of four", call);
            check.refused(Check.STATE, Games::laidAgain, "not started, behind a game", call);
            check.taken(Games::two, "started", call);
            for (Supplier<Hintworks> over : Games.allOver()) {
                check.taken(over, "over", call);
            }
        });
    }

    /** Tests that a call's player has to be one of those who play. */
    void playersOnly(String words, BiFunction<Hintworks, Integer, Object> call) {
        test(words, () -> {
            for (int players = 2; players <= 4; players++) {
                int number = players;
                Supplier<Hintworks> made = () -> Games.started(number, 2);
                check.taken(made, "the first of " + players, x -> call.apply(x, 0));
                check.taken(made, "the last of " + players, x -> call.apply(x, number - 1));
                check.refused(Check.RANGE, made, "one more than " + players, x -> call.apply(x, number));
                check.refused(Check.RANGE, made, "one below", x -> call.apply(x, -1));
                check.refused(Check.RANGE, made, "far above", x -> call.apply(x, Integer.MAX_VALUE));
                check.refused(Check.RANGE, made, "far below", x -> call.apply(x, Integer.MIN_VALUE));
            }
        });
    }

    /** Tests that a call's place has to be one of those that hold a card. */
    void placesOnly(String words, BiFunction<Hintworks, Integer, Object> call) {
        numbers(words, Games::two, 0, 4, Check.RANGE, call);
        numbers(words, () -> Games.started(4, 2), 0, 3, Check.RANGE, call);
        numbers(words, () -> Laid.acted(Games.started(2, 1), "p0"), 0, 3, Check.RANGE, call);
    }

    void end() {
        for (Map.Entry<String, boolean[]> one : told.entrySet()) {
            part = one.getKey();
            String words = part.startsWith("Promise ") ? promise(part) : paragraph(part);
            check.due("words of " + part + " without a test", without(words, one.getValue()), "");
        }
        check.end();
    }

    private static String without(String words, boolean[] marks) {
        StringBuilder left = new StringBuilder();
        boolean gap = false;
        for (int at = 0; at < words.length(); at++) {
            if (!marks[at] && Character.isLetterOrDigit(words.charAt(at))) {
                left.append(gap && left.length() > 0 ? " " : "").append(words.charAt(at));
                gap = false;
            } else {
                gap = true;
            }
        }
        return left.toString();
    }
}
