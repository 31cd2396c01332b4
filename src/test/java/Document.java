import java.io.IOException;
import java.nio.file.Files;
import java.nio.file.Path;
import java.util.ArrayList;
import java.util.BitSet;
import java.util.LinkedHashMap;
import java.util.List;
import java.util.Map;
import java.util.stream.Collectors;
import java.util.stream.IntStream;

/** The document's sections, and which of their words the tests have quoted. */
final class Document {
    static final String TERMS = "Terms";
    static final String WHAT_IT_IS = "What it is";

    private final Check check = new Check();
    private final Map<String, String> sections = new LinkedHashMap<>();
    private final Map<String, BitSet> quoted = new LinkedHashMap<>();
    private final Map<String, Integer> places = new LinkedHashMap<>();
    private final List<Sentence> sentences = new ArrayList<>();

    /** Without the file the sentences are tested all the same, but their words are not looked up. */
    Document(Path file) throws IOException {
        if (!Files.isReadable(file)) {
            System.out.println("no document at " + file + ": the quotes are not looked up");
            return;
        }
        for (String part : Files.readString(file).split("(?m)^## ")) {
            int end = part.indexOf('\n');
            String heading = part.substring(0, end).strip();
            if (heading.equals(TERMS) || heading.equals(WHAT_IT_IS) || heading.startsWith("Promise ")) {
                sections.put(heading.replaceAll(":.*", ""), part.substring(end).replaceAll("```[a-z]*", " ").replaceAll("\\s+", " "));
            }
        }
        check.due("the sections of the document", sections.size(), 17);
    }

    /** A sentence (or a part of one) of a promise. */
    Sentence promise(int number, String quote) {
        return says("Promise " + number, quote, "Promise " + number);
    }

    /** A sentence (or a part of one) of the terms, with the promises that it is tested by. */
    Sentence terms(String quote, int... promises) {
        String numbers = IntStream.of(promises).mapToObj(String::valueOf).collect(Collectors.joining(", "));
        return says(TERMS, quote, TERMS + " of promise " + numbers);
    }

    Sentence says(String section, String quote, String name) {
        mark(section, quote);
        Sentence sentence = new Sentence(check, name + ", \"" + quote + "\"");
        sentences.add(sentence);
        return sentence;
    }

    /** Words that name no case of their own: what a call is called, and the like. */
    void passOver(String section, String quote) {
        mark(section, quote);
    }

    private void mark(String section, String quote) {
        if (sections.isEmpty()) {
            return;
        }
        String words = sections.getOrDefault(section, "");
        int after = words.indexOf(quote, places.getOrDefault(section, 0));
        int at = after >= 0 ? after : words.indexOf(quote);
        check.due(section + " says: " + quote, at >= 0, true);
        if (at >= 0) {
            quoted.computeIfAbsent(section, s -> new BitSet()).set(at, at + quote.length());
            places.put(section, at + quote.length());
        }
    }

    void end() {
        for (Map.Entry<String, String> section : sections.entrySet()) {
            BitSet seen = quoted.getOrDefault(section.getKey(), new BitSet());
            StringBuilder left = new StringBuilder();
            for (int i = 0; i < section.getValue().length(); i++) {
                left.append(seen.get(i) ? ' ' : section.getValue().charAt(i));
            }
            String words = left.toString().replaceAll("[^A-Za-z0-9]+", " ").strip();
            check.due("what no test quotes of " + section.getKey(), words, "");
        }
        for (Sentence sentence : sentences) {
            check.due(sentence + ": is tested", sentence.isTested(), true);
        }
        check.end();
    }
}
