import java.io.IOException;
import java.nio.file.Files;
import java.nio.file.Path;
import java.util.Map;
import java.util.TreeMap;
import java.util.function.IntToLongFunction;

/**
 * The document's own sentences. A boundary test names the promise and the sentence that it takes;
 * the sentence must stand in that promise or in the terms, and in the end none may be left over.
 */
final class Doc {
    private static final Path PLACE = Path.of("../shared/DOC.md");
    private static final int TERMS = 0;
    private static final int PROMISES = 42;

    private static final String[] texts = new String[PROMISES + 1];
    private static final boolean[][] taken = new boolean[PROMISES + 1][];
    private static final Map<String, Integer> answers = new TreeMap<>();
    private static String heading = "";

    private Doc() {
    }

    static void open() throws IOException {
        StringBuilder[] parts = new StringBuilder[PROMISES + 1];
        for (int k = 0; k <= PROMISES; k++) {
            parts[k] = new StringBuilder();
        }
        int section = -1;
        for (String line : Files.readAllLines(PLACE)) {
            if (line.startsWith("## ")) {
                section = sectionOf(line);
            } else if (section >= 0 && !line.startsWith("```")) {
                parts[section].append(' ').append(line);
            }
        }
        for (int k = 0; k <= PROMISES; k++) {
            // A promise begins with its call, which is no sentence.
            String plain = k == TERMS ? parts[k].toString() : parts[k].toString().replaceFirst("^ *`[^`]*`:", "");
            texts[k] = plain.replaceAll("\\s+", " ").trim();
            taken[k] = new boolean[texts[k].length()];
            Check.due("the document has section " + k, !texts[k].isEmpty(), true);
        }
    }

    private static int sectionOf(String line) {
        if (line.startsWith("## Terms")) {
            return TERMS;
        }
        return line.startsWith("## Promise ") ? Integer.parseInt(line.substring(11, line.indexOf(':'))) : -1;
    }

    /** What follows tests this sentence. */
    static void says(int promise, String sentence) {
        heading = "promise " + promise + ", \"" + sentence + "\": ";
        answers.putIfAbsent(heading, 0);
        int section = texts[promise].contains(sentence) ? promise : TERMS;
        int at = texts[section].indexOf(sentence);
        Check.due(heading + "the document has these words", at >= 0, true);
        for (int k = at; at >= 0 && k < at + sentence.length(); k++) {
            taken[section][k] = true;
        }
    }

    static void due(String what, long got, long want) {
        answers.merge(heading, 1, Integer::sum);
        Check.due(heading + what, got, want);
    }

    static void due(String what, boolean got, boolean want) {
        due(what, got ? 1 : 0, want ? 1 : 0);
    }

    /** The calls with low and high answer, those one further and those furthest out are refused. */
    static void bounds(String what, IntToLongFunction call, int low, int high, long refused) {
        for (int inside : new int[] {low, high}) {
            due(what + " " + inside + " is refused", call.applyAsLong(inside) == refused, false);
        }
        for (int outside : new int[] {low - 1, high + 1, Integer.MIN_VALUE, Integer.MAX_VALUE}) {
            due(what + " " + outside, call.applyAsLong(outside), refused);
        }
    }

    /** Each sentence of the terms and of the promises was taken, and calls were asked about it. */
    static void close() {
        for (Map.Entry<String, Integer> sentence : answers.entrySet()) {
            Check.due(sentence.getKey() + "answers were asked", sentence.getValue() > 0, true);
        }
        for (int section = 0; section <= PROMISES; section++) {
            StringBuilder left = new StringBuilder();
            for (int k = 0; k < texts[section].length(); k++) {
                char c = texts[section].charAt(k);
                boolean isWord = Character.isLetterOrDigit(c);
                if (isWord && !taken[section][k]) {
                    left.append(c);
                } else if (left.length() > 0 && left.charAt(left.length() - 1) != ' ') {
                    left.append(' ');
                }
            }
            String where = section == TERMS ? "the terms" : "promise " + section;
            Check.due("no test takes these words of " + where + ": " + left, left.length(), 0);
        }
    }
}
