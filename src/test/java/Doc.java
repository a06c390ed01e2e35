import java.io.IOException;
import java.nio.file.Files;
import java.nio.file.Path;
import java.util.Map;
import java.util.TreeMap;

/** The document's sentences: each test of a boundary tells which one it holds, and none may be left over. */
final class Doc {
    private static final int FEWEST_ANSWERS = 2;
    private static final String TEXT = read();
    // of each section whether its signs stand in a sentence that was told
    private static final Map<String, boolean[]> TOLD = new TreeMap<>();
    private static String sentence = "";
    private static int askedBefore;

    private Doc() {
    }

    private static String read() {
        try {
            return Files.readString(Path.of("../shared/DOC.md"));
        } catch (IOException e) {
            throw new IllegalStateException("no document", e);
        }
    }

    private static String between(String from, String to) {
        int start = TEXT.indexOf(from);
        int end = start < 0 ? -1 : TEXT.indexOf(to, start + from.length());
        if (end < 0) {
            throw new IllegalStateException("not in the document: " + from + " .. " + to);
        }
        return TEXT.substring(start + from.length(), end);
    }

    /** Sections are: Use, Terms 1 to Terms 5, Constants, Promise 1 to Promise 33. */
    private static String section(String name) {
        String text;
        if (name.equals("Use")) {
            text = between("==== 1.\n", "## The public face");
        } else if (name.equals("Constants")) {
            text = between("The constants:", "## Promise 1:");
        } else if (name.equals("Terms 1")) {
            text = between("## Terms", "==== 2.");
        } else if (name.equals("Terms 5")) {
            text = between("==== 5.", "The constants:");
        } else if (name.startsWith("Terms ")) {
            int part = Integer.parseInt(name.substring(6));
            text = between("==== " + part + ".", "==== " + (part + 1) + ".");
        } else {
            text = between("## " + name + ": ", "\n## ");
            text = text.substring(text.indexOf("`: ") + 3);
        }
        return text.replace("```text", " ").replace("```", " ").replaceAll("\\s+", " ");
    }

    /** From here on the answers hold this sentence, one that stands in the section. */
    static void says(String section, String newSentence) {
        endSentence();
        sentence = newSentence;
        askedBefore = Due.asked();
        Due.within(section + ", " + newSentence);
        String text = section(section);
        boolean[] told = TOLD.computeIfAbsent(section, s -> new boolean[text.length()]);
        int start = text.indexOf(newSentence);
        while (start >= 0 && told[start]) {
            start = text.indexOf(newSentence, start + 1);
        }
        if (start < 0) {
            Due.is("stands in the document, and was not told yet", 0, 1);
            return;
        }
        for (int i = 0; i < newSentence.length(); i++) {
            told[start + i] = true;
        }
    }

    /** A boundary has two sides. */
    private static void endSentence() {
        if (!sentence.isEmpty() && Due.asked() - askedBefore < FEWEST_ANSWERS) {
            Due.is("both sides are asked", 0, 1);
        }
        sentence = "";
    }

    /** All of these sections' words were told. */
    static void whole(String... sections) {
        endSentence();
        Due.within("");
        for (String name : sections) {
            String text = section(name);
            boolean[] told = TOLD.getOrDefault(name, new boolean[text.length()]);
            StringBuilder left = new StringBuilder();
            for (int i = 0; i < text.length(); i++) {
                if (!told[i] && Character.isLetterOrDigit(text.charAt(i))) {
                    left.append(text.charAt(i));
                }
            }
            if (left.length() > 0) {
                System.out.println("left over of " + name + ": " + left);
            }
            Due.is(name + ": words left over", left.length(), 0);
        }
    }

    static void wholePromises(int first, int last) {
        for (int i = first; i <= last; i++) {
            whole("Promise " + i);
        }
    }
}
