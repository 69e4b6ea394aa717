import java.io.IOException;
import java.nio.file.Files;
import java.nio.file.Path;
import java.util.HashMap;
import java.util.Map;

/** A boundary case: a test that is named by the chapter of the document and by its words there. */
final class Edge {
    private static final Path DOCUMENT = Path.of("../shared/DOC.md");
    private static final Map<String, String> CHAPTERS = chapters();
    private static int held;

    private Edge() {
    }

    static void edge(String chapter, String words, Runnable test) {
        Due.name(chapter + ", \"" + words + "\": ");
        if (!CHAPTERS.isEmpty()) {
            String text = CHAPTERS.getOrDefault(chapter, "");
            Due.due("these words in the document", text.contains(words), true);
        }
        try {
            test.run();
        } catch (RuntimeException e) {
            Due.wrong("a call threw " + e);
        }
        Due.name("");
        held++;
    }

    static int count() {
        return held;
    }

    /** What stands under "==== 1." is "Terms 1", under "## Promise 7: letter" it is "Promise 7". */
    private static Map<String, String> chapters() {
        Map<String, String> all = new HashMap<>();
        if (!Files.exists(DOCUMENT)) {
            return all;
        }
        String chapter = "";
        try {
            for (String line : Files.readAllLines(DOCUMENT)) {
                if (line.startsWith("## ")) {
                    chapter = line.substring(3).replaceAll(":.*", "");
                } else if (line.startsWith("==== ")) {
                    chapter = "Terms " + line.substring(5).replaceAll("\\..*", "");
                }
                all.merge(chapter, line, (before, more) -> before + "\n" + more);
            }
        } catch (IOException e) {
            throw new IllegalStateException(e);
        }
        return all;
    }
}
