import java.io.IOException;
import java.nio.charset.StandardCharsets;
import java.nio.file.Files;
import java.nio.file.Path;
import java.util.ArrayList;
import java.util.LinkedHashMap;
import java.util.List;
import java.util.Map;
import java.util.function.BiConsumer;
import java.util.function.Consumer;
import java.util.function.ToLongFunction;

/**
 * Which checks hold which sentence of the document. Sentences are told in the document's own words, section
 * by section; the ledger fails when one stands nowhere (or twice) in its section, when one has no check, and
 * when a section has words that no sentence has told.
 */
final class Ledger {
    private static final Path DOCUMENT = Path.of("../shared/DOC.md");
    /** The face and what is not promised have no sentence that an answer could hold. */
    private static final String[] NAMES = {
        "What it is", "Terms", "Promise 1: A new object", "Promise 2: feed", "Promise 3: end",
        "Promise 4: town", "Promise 5: fault", "Promise 6: has", "Promise 7: letter", "Promise 8: lot",
        "Promise 9: gap", "Promise 10: person", "Promise 11: purse", "Promise 12: toll", "Promise 13: step",
        "Promise 14: way", "Promise 15: leave", "Promise 16: go", "Promise 17: night", "Promise 18: patch",
        "Promise 19: snow", "Promise 20: fire", "Promise 21: undo", "Promise 22: seed", "Promise 23: led",
        "Promise 24: burns", "Promise 25: stopped", "Promise 26: opened", "Promise 27: broke", "Promise 28: worth",
        "Promise 29: reach", "Promise 30: leaks", "Promise 31: image", "Promise 32: octet", "Promise 33: on"};

    private static final int[] EDGES = {-1, 2, 4, 6, 10, 20, 21, 32, Integer.MAX_VALUE, Integer.MIN_VALUE};
    /** In place of a count of checks, where no sentence is open. */
    private static final int NO_SENTENCE = -1;

    private static final class Section {
        final String text;
        final boolean[] told;

        Section(String text) {
            this.text = text;
            told = new boolean[text.length()];
        }
    }

    private final Map<String, Section> sections = new LinkedHashMap<>();
    private final List<String> lines = new ArrayList<>();
    private final Check check = new Check("SentencesTest");
    private Section section;
    private String title = "";
    private String sentence = "";
    private int checks = NO_SENTENCE;
    private boolean cutShort;

    Ledger() throws IOException {
        String all = Files.readString(DOCUMENT, StandardCharsets.UTF_8).replaceAll("\\s+", " ");
        for (String part : all.split(" ## ")) {
            for (String name : NAMES) {
                if (part.startsWith(name)) {
                    sections.put(name, new Section(part.substring(name.length())));
                }
            }
        }
        check.due("sections of the document that are to be held", sections.size(), NAMES.length);
    }

    void section(String name) {
        closeSentence();
        title = name;
        section = sections.get(name);
        if (section == null) {
            check.due("the document's section " + name, false, true);
            section = new Section("");
        } else if (name.startsWith("Promise ")) {
            tell(0, section.text.indexOf("`:") + 1);
        }
        lines.add("\n" + name);
    }

    /** A sentence that the checks behind it hold, up to the next one. */
    void sentence(String words) {
        closeSentence();
        find(words);
        sentence = words;
        checks = 0;
    }

    /** Words that name nothing that an answer could be held against. */
    void words(String words) {
        closeSentence();
        find(words);
        lines.add("     -  " + words);
    }

    private void find(String words) {
        int at = section.text.indexOf(words);
        check.due(title + " has once: " + words, at >= 0 && section.text.indexOf(words, at + 1) < 0, true);
        if (at >= 0) {
            tell(at, at + words.length());
        }
    }

    private void tell(int from, int to) {
        for (int k = from; k < to; k++) {
            section.told[k] = true;
        }
    }

    void due(String call, long got, long want) {
        checks++;
        check.due(title + ": \"" + sentence + "\": " + call, got, want);
    }

    void due(String call, boolean got, boolean want) {
        due(call, got ? 1 : 0, want ? 1 : 0);
    }

    /**
     * A call that answers this and leaves all as it was: of two objects that were told the same, one gets the
     * call, and both have to answer the same from then on.
     */
    void refused(String call, Consumer<TileHeel> before, ToLongFunction<TileHeel> it, long want) {
        TileHeel called = new TileHeel();
        TileHeel other = new TileHeel();
        before.accept(called);
        before.accept(other);
        due(call, it.applyAsLong(called), want);
        same(call, Everything.of(called), Everything.of(other));
    }

    /** Questions with arguments that may not be: whatever they answer, all stays as it was. */
    void asks(String questions, BiConsumer<TileHeel, Integer> them) {
        TileHeel asked = new TileHeel();
        TileHeel other = new TileHeel();
        Lives.lived(asked);
        Lives.lived(other);
        for (int argument : EDGES) {
            them.accept(asked, argument);
        }
        same(questions, Everything.of(asked), Everything.of(other));
    }

    void same(String call, List<String> got, List<String> want) {
        for (int k = 0; k < Math.max(got.size(), want.size()); k++) {
            String left = k < got.size() ? got.get(k) : "nothing";
            String right = k < want.size() ? want.get(k) : "nothing";
            if (!left.equals(right)) {
                due(call + ": " + left + " behind it, without it " + right, false, true);
                return;
            }
        }
        due(call + " leaves all", true, true);
    }

    /** A part of the document; if a town of its checks can't be told, that is a failure of the sentence that tells it. */
    void hold(Consumer<Ledger> part) {
        try {
            part.accept(this);
        } catch (IllegalStateException untold) {
            due(untold.getMessage(), false, true);
            cutShort = true;
        }
    }

    private void closeSentence() {
        if (checks != NO_SENTENCE) {
            check.due(title + ": checks for: " + sentence, checks > 0, true);
            lines.add(String.format("%6d  %s", checks, sentence));
        }
        checks = NO_SENTENCE;
    }

    void close(boolean tellLines) {
        closeSentence();
        for (Map.Entry<String, Section> one : sections.entrySet()) {
            check.due(one.getKey() + " has words that no check holds: " + untold(one.getValue()),
                cutShort || untold(one.getValue()).isEmpty(), true);
        }
        if (tellLines) {
            lines.forEach(System.out::println);
        }
        check.close();
    }

    private static String untold(Section section) {
        StringBuilder rest = new StringBuilder();
        for (int k = 0; k < section.text.length(); k++) {
            rest.append(section.told[k] ? ' ' : section.text.charAt(k));
        }
        String words = rest.toString().replace("```text", "").replace("```", "").trim().replaceAll("\\s+", " ");
        return words.matches("[^A-Za-z0-9]*") ? "" : words;
    }
}
