import java.io.IOException;
import java.io.UncheckedIOException;
import java.nio.file.Files;
import java.nio.file.Path;
import java.util.ArrayList;
import java.util.List;
import java.util.Map;
import java.util.TreeMap;
import java.util.regex.Matcher;
import java.util.regex.Pattern;

/** The document, by its promises and its terms, and which of its words a test has been written for. */
final class Doc {
    /** The terms are told ahead of promise 1, and so are promise 0 here. */
    static final int TERMS = 0;
    private static final Path FILE = Path.of("../shared/DOC.md");

    private final Map<Integer, String> texts = new TreeMap<>();
    private final Map<Integer, boolean[]> quoted = new TreeMap<>();

    Doc() {
        String whole = read();
        Matcher part = Pattern.compile("\n## (Terms|Promise (\\d+): \\w[^\n]*)\n(.*?)(?=\n## )", Pattern.DOTALL)
                .matcher(whole);
        while (part.find()) {
            int number = part.group(2) == null ? TERMS : Integer.parseInt(part.group(2));
            texts.put(number, wordsOf(part.group(3)));
            quoted.put(number, new boolean[texts.get(number).length()]);
        }
    }

    private static String read() {
        try {
            return Files.readString(FILE);
        } catch (IOException e) {
            throw new UncheckedIOException(e);
        }
    }

    /** What is left of a part without its face, its fences and the headings of the interface. */
    private static String wordsOf(String part) {
        String words = part.replaceAll("```(text)?", " ").replaceAll("Ahead of the calls [^\n]*", " ");
        return words.replaceFirst("`[^`]*`: ", " ").replaceAll("========", " ").replaceAll("\\s+", " ").trim();
    }

    /** Whether a promise has these words; they count as tested from now on. */
    boolean quote(int promise, String words) {
        String text = texts.getOrDefault(promise, "");
        int at = text.indexOf(words);
        if (at < 0 || words.isEmpty()) {
            return false;
        }
        for (int i = 0; i < words.length(); i++) {
            quoted.get(promise)[at + i] = true;
        }
        return true;
    }

    int promises() {
        return texts.size() - (texts.containsKey(TERMS) ? 1 : 0);
    }

    /** The words that no test quotes, each run of them behind the number of its promise. */
    List<String> untested() {
        List<String> left = new ArrayList<>();
        for (int promise : texts.keySet()) {
            StringBuilder run = new StringBuilder();
            String text = texts.get(promise) + " ";
            for (int i = 0; i < text.length(); i++) {
                boolean open = i < quoted.get(promise).length && !quoted.get(promise)[i];
                if (open) {
                    run.append(text.charAt(i));
                } else if (run.toString().matches(".*\\w.*")) {
                    left.add(promise + ": " + run.toString().trim());
                }
                if (!open) {
                    run.setLength(0);
                }
            }
        }
        return left;
    }
}
