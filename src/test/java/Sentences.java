import java.io.IOException;
import java.nio.file.Files;
import java.nio.file.Path;

/**
 * One part of DOC.md and the tests of its sentences. Each test is named by the words that it holds,
 * which must stand in that part; words that no test holds are a fault of the tests.
 */
final class Sentences {
    private final String part;
    private final String text;
    private final boolean[] held;

    private Sentences(String part, String text) {
        this.part = part;
        this.text = text;
        held = new boolean[text.length()];
    }

    static Sentences ofPromise(int number, String[] args) {
        String doc = read(args);
        String head = "## Promise " + number + ": ";
        int begin = doc.indexOf(head);
        int signature = doc.indexOf("`: ", begin) + 3;
        int end = doc.indexOf(" ## ", signature);
        return new Sentences("promise " + number, begin < 0 ? "" : doc.substring(signature, end));
    }

    /** What stands from some words on to some others, which are no part of it. */
    static Sentences ofTerms(String from, String to, String[] args) {
        String doc = read(args);
        int begin = doc.indexOf(from);
        return new Sentences("from " + from + " on", begin < 0 ? "" : doc.substring(begin, doc.indexOf(to, begin)));
    }

    private static String read(String[] args) {
        try {
            String doc = Files.readString(Path.of(args.length > 1 ? args[1] : "../shared", "DOC.md"));
            return doc.replaceAll("```(text|java)?", " ").replaceAll("\\s+", " ");
        } catch (IOException thrown) {
            Check.fail("DOC.md can't be read: " + thrown);
            return "";
        }
    }

    void hold(String words, Runnable test) {
        Check.hold(part + " says \"" + words + "\"");
        int at = text.indexOf(words);
        if (at < 0) {
            Check.fail(part + " does not say \"" + words + "\"");
        }
        for (int i = 0; at >= 0 && i < words.length(); i++) {
            held[at + i] = true;
        }
        int before = Check.checks();
        test.run();
        if (Check.checks() == before) {
            Check.fail("nothing is tested of \"" + words + "\"");
        }
    }

    void finish() {
        close();
        Check.finish(part);
    }

    /** Every word of the part must have been held. */
    void close() {
        StringBuilder open = new StringBuilder();
        for (int i = 0; i < text.length(); i++) {
            if (!held[i] && Character.isLetterOrDigit(text.charAt(i))) {
                open.append(text.charAt(i));
            } else if (open.length() > 0 && open.charAt(open.length() - 1) != ' ') {
                open.append(' ');
            }
        }
        if (text.isEmpty() || open.length() > 0) {
            Check.fail("no test holds, of " + part + ": " + open);
        }
    }
}
