import java.io.IOException;
import java.nio.file.Files;
import java.nio.file.Path;
import java.util.ArrayList;
import java.util.Arrays;
import java.util.LinkedHashMap;
import java.util.LinkedHashSet;
import java.util.List;
import java.util.Map;
import java.util.Set;

/**
 * Tests of single sentences of the document. Each test quotes its sentence, or the part of it that it tests, so that
 * the quote can be looked for in the document; at the end each sentence must have been quoted. It is run from the
 * project's root.
 */
final class Sentences {
    private static final Path DOCUMENT = Path.of("..", "shared", "DOC.md");

    private final Script script = new Script();
    private final Map<String, String> sections = new LinkedHashMap<>();
    private final Map<String, Set<String>> quotes = new LinkedHashMap<>();
    private int tests;
    private int wrong;

    Sentences() {
        try {
            for (String section : Files.readString(DOCUMENT).split("(?m)^## ")) {
                String[] parts = section.split("\n", 2);
                sections.put(parts[0].split(":")[0].strip(), parts.length > 1 ? parts[1] : "");
            }
        } catch (IOException e) {
            throw new IllegalStateException("the document cannot be read", e);
        }
    }

    /** Tests a sentence that stands under the heading of a promise. */
    void promise(int number, String sentence, String calls) {
        quote("Promise " + number, sentence);
        tests++;
        script.run("promise " + number + ": " + sentence, calls);
    }

    /** Tests a sentence of another section, which belongs to the promises that are named. */
    void test(String section, String promises, String sentence, String calls) {
        quote(section, sentence);
        tests++;
        script.run(section + " (" + promises + "): " + sentence, calls);
    }

    /** Names sentences that have no test of their own here. */
    void untested(String section, String... sentences) {
        for (String sentence : sentences) {
            quote(section, sentence);
        }
    }

    private void quote(String section, String sentence) {
        String text = oneLine(sections.getOrDefault(section, ""));
        check(text.contains(sentence), section + " does not say: " + sentence);
        quotes.computeIfAbsent(section, s -> new LinkedHashSet<>()).add(sentence);
    }

    private static String oneLine(String text) {
        return text.strip().replaceAll("\\s+", " ");
    }

    private void check(boolean isFine, String otherwise) {
        if (!isFine) {
            wrong++;
            System.out.println(otherwise);
        }
    }

    /** The sentences of a section as far as a stop, but for lines that say of a parameter only what it is. */
    private List<String> sentences(String section, String stop) {
        String text = sections.get(section);
        int end = stop.isEmpty() ? -1 : text.indexOf(stop);
        List<String> found = new ArrayList<>();
        for (String paragraph : (end < 0 ? text : text.substring(0, end)).split("\n\\s*\n|\n(?=- )")) {
            String line = oneLine(paragraph).replaceFirst("^`[^`]*`: ", "");
            if (line.startsWith("- ") && !line.matches(".*[0-9].*")) {
                continue;
            }
            found.addAll(Arrays.asList(line.split("(?<=[.:]) (?=[A-Z\"])")));
        }
        return found;
    }

    /** Looks for sentences of a section, as far as a stop, of which no part was quoted. */
    void needAll(String section, String stop) {
        check(sections.containsKey(section), "there is no section " + section);
        for (String sentence : sections.containsKey(section) ? sentences(section, stop) : List.<String>of()) {
            boolean isQuoted = quotes.getOrDefault(section, Set.of()).stream().anyMatch(sentence::contains);
            check(isQuoted, section + " has a sentence without a test: " + sentence);
        }
    }

    /** Prints what there is to say, and ends the program with 1 if something was wrong. */
    void end(String what) {
        System.out.println(what + ": " + tests + " tests of sentences, " + wrong + " quotes or sentences amiss");
        if (wrong != 0) {
            System.exit(1);
        }
        script.end(what);
    }
}
