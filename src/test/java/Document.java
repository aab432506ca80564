import java.io.IOException;
import java.nio.file.Files;
import java.nio.file.Path;
import java.util.Arrays;
import java.util.HashMap;
import java.util.LinkedHashMap;
import java.util.Map;

/**
 * The document's own words. A test of a sentence says ahead of its answers which sentence that is; a
 * sentence that does not stand there, that has no answers, or that no test has said is a fault.
 */
final class Document {
    private static final Path PLACE = Path.of("..", "shared", "DOC.md");
    private static final int PROMISES = 28;
    private static final String TERMS = "Terms";
    private static final String LIFE = "What it is";
    /** These only tell what the document is about, and what stands between the calls in its face. */
    private static final String[] NO_SENTENCES = {"Whole numbers far beyond", "Ahead of the calls"};

    private static final Map<String, String> SECTIONS = new LinkedHashMap<>();
    private static final Map<String, boolean[]> SAID = new HashMap<>();
    private static String latest = "";
    private static int askedBefore = 0;

    private Document() {
    }

    static void open() throws IOException {
        for (String section : Files.readString(PLACE).split("(?m)^## ")) {
            int end = section.indexOf('\n');
            String name = end < 0 ? section : section.substring(0, end).replaceFirst(":.*", "");
            if (name.equals(TERMS) || name.equals(LIFE) || name.startsWith("Promise ")) {
                String text = sentencesOf(section.substring(end));
                SECTIONS.put(name, text);
                SAID.put(name, new boolean[text.length()]);
            }
        }
        Due.due("promises, the terms, and an object's life", SECTIONS.size(), PROMISES + 2);
    }

    private static String sentencesOf(String section) {
        StringBuilder text = new StringBuilder();
        for (String line : section.split("\n")) {
            boolean sentences = true;
            for (String start : NO_SENTENCES) {
                sentences &= !line.startsWith(start);
            }
            if (sentences) {
                // ahead of a promise's sentences stands its call, as in the face
                text.append(line.replaceFirst("^`[^`]*\\)[^`]*`: ", "")).append('\n');
            }
        }
        return text.toString();
    }

    static void life(String words) {
        says(LIFE, words);
    }

    static void terms(String words) {
        says(TERMS, words);
    }

    static void promise(int n, String words) {
        says("Promise " + n, words);
    }

    private static void says(String name, String words) {
        endSentence();
        latest = name + ", \"" + words + "\":";
        Due.under(latest);
        String text = SECTIONS.getOrDefault(name, "");
        int at = text.indexOf(words);
        Due.due("the sentence stands in the document", at >= 0, true);
        while (at >= 0) {
            Arrays.fill(SAID.get(name), at, at + words.length(), true);
            at = text.indexOf(words, at + 1);
        }
        askedBefore = Due.asked();
    }

    private static void endSentence() {
        if (!latest.isEmpty()) {
            Due.due("the sentence has answers of its own", Due.asked() > askedBefore, true);
        }
    }

    /** Behind the last sentence: nothing but stops and spaces may be left that no test has said. */
    static void close() {
        endSentence();
        for (String name : SECTIONS.keySet()) {
            StringBuilder left = new StringBuilder();
            String text = SECTIONS.get(name);
            for (int i = 0; i < text.length(); i++) {
                left.append(SAID.get(name)[i] ? ' ' : text.charAt(i));
            }
            Due.under(name + ":");
            Due.due("what no test has said", left.toString().replaceAll("[\\s.,;:]+", " ").trim(), "");
        }
    }
}
