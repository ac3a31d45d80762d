import java.io.IOException;
import java.nio.file.Files;
import java.nio.file.Path;
import java.util.ArrayList;
import java.util.Arrays;
import java.util.List;
import java.util.regex.Matcher;
import java.util.regex.Pattern;

/** What the document says in its Terms and of each promise, and what of it a test is about. */
final class Sentences {
    private static final int PROMISES = 29;

    /** 0: what it is, and the Terms; then the promises. */
    private final String[] parts = new String[PROMISES + 1];
    private final boolean[][] marked = new boolean[PROMISES + 1][];
    private boolean read = false;

    private Sentences() {
    }

    /** Without a document to look into every sentence is believed. */
    static Sentences of(Path document) {
        Sentences s = new Sentences();
        if (Files.isReadable(document)) {
            try {
                s.take(Files.readString(document));
            } catch (IOException e) {
                System.out.println("EdgesTest: " + document + " can not be read");
            }
        } else {
            System.out.println("EdgesTest: there is no " + document + ", so no sentence is looked up");
        }
        return s;
    }

    private void take(String text) {
        Arrays.fill(parts, "");
        Matcher use = Pattern.compile("An object is used for[^\n]*").matcher(text);
        if (use.find()) parts[0] = use.group() + " ";
        for (String section : text.split("\n## ")) {
            String body = section.substring(Math.max(0, section.indexOf('\n')));
            if (section.startsWith("Terms")) parts[0] += body;
            Matcher promise = Pattern.compile("^Promise (\\d+):").matcher(section);
            if (promise.find() && Integer.parseInt(promise.group(1)) <= PROMISES)
                parts[Integer.parseInt(promise.group(1))] = body;
        }
        for (int i = 0; i <= PROMISES; i++) {
            parts[i] = plain(parts[i]);
            marked[i] = new boolean[parts[i].length()];
        }
        read = true;
    }

    /** Without fences, rulings, signatures and the lines of the interface. */
    private static String plain(String body) {
        return body.replaceAll("Ahead of the calls[^\n]*", "").replaceAll("```(text)?", "").replaceAll("==== \\d", "")
                .replaceAll("(?m)^`[^`]*`:", "").replaceAll("\\s+", " ").trim();
    }

    /** Whether the Terms, or the section of the promise, say so. */
    boolean mark(int promise, String words) {
        if (!read) return true;
        boolean inTerms = markIn(0, words);
        return markIn(promise, words) || inTerms;
    }

    private boolean markIn(int part, String words) {
        boolean found = false;
        for (int at = parts[part].indexOf(words); at >= 0; at = parts[part].indexOf(words, at + 1)) {
            Arrays.fill(marked[part], at, at + words.length(), true);
            found = true;
        }
        return found;
    }

    /** What no test is about, of each part the pieces. */
    List<String> unmarked() {
        List<String> left = new ArrayList<>();
        for (int i = 0; read && i <= PROMISES; i++) {
            StringBuilder piece = new StringBuilder();
            for (int at = 0; at <= parts[i].length(); at++) {
                if (at < parts[i].length() && !marked[i][at]) {
                    piece.append(parts[i].charAt(at));
                } else {
                    if (piece.toString().matches(".*\\w.*")) left.add((i == 0 ? "Terms: " : i + ": ") + piece);
                    piece.setLength(0);
                }
            }
        }
        return left;
    }
}
