import java.io.IOException;
import java.nio.file.Files;
import java.nio.file.Path;

/**
 * The words of ../shared/DOC.md. A group of checks says first which words it asks about; the end
 * fails if words were said that the document has not, or if it has words that no group has said.
 */
final class Doc {
    private static final Path FILE = Path.of("../shared/DOC.md");

    private final Checks checks = new Checks();
    private final String text;
    private final boolean[] said;
    private String words = "";

    Doc() throws IOException {
        boolean isThere = Files.exists(FILE);
        if (!isThere) {
            System.out.println("no " + FILE + " here: its words are not looked up");
        }
        text = isThere ? promised(Files.readString(FILE)) : "";
        said = new boolean[text.length()];
    }

    /** What is promised, without headings, the face and the signatures; white space folded. */
    private static String promised(String all) {
        int from = Math.max(0, all.indexOf("An object is used for"));
        int to = all.indexOf("## Not promised");
        return all.substring(from, to < from ? all.length() : to)
                .replaceAll("(?s)```java.*?```", " ")
                .replaceAll("(?m)^```.*$", " ")
                .replaceAll("(?m)^#.*$", " ")
                .replaceAll("(?m)^`[^`]*`: ", " ")
                .replaceAll("==== \\d\\.", " ")
                .replaceAll("\\s+", " ");
    }

    /** The checks that follow ask about these words. */
    void says(String newWords) {
        words = newWords;
        if (text.isEmpty()) {
            return;
        }
        int at = text.indexOf(newWords);
        checks.due("the document says: " + newWords, at >= 0, true);
        while (at >= 0) {
            for (int i = at; i < at + newWords.length(); i++) {
                said[i] = true;
            }
            at = text.indexOf(newWords, at + 1);
        }
    }

    void due(String call, long got, long want) {
        checks.due("\"" + words + "\": " + call, got, want);
    }

    void due(String call, boolean got, boolean want) {
        checks.due("\"" + words + "\": " + call, got, want);
    }

    void due(String call, String got, String want) {
        checks.due("\"" + words + "\": " + call + " is " + got + ", due is " + want,
                got.equals(want), true);
    }

    void end() {
        StringBuilder run = new StringBuilder();
        for (int i = 0; i <= text.length(); i++) {
            if (i < text.length() && !said[i]) {
                run.append(text.charAt(i));
            } else {
                if (run.toString().matches("(?s).*\\w.*")) {
                    checks.due("no check for the words: " + run, false, true);
                }
                run.setLength(0);
            }
        }
        checks.end();
    }
}
