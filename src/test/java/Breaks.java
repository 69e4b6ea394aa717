import java.io.ByteArrayOutputStream;
import java.io.IOException;
import java.io.PrintStream;
import java.nio.file.Files;
import java.nio.file.Path;
import java.util.ArrayList;
import java.util.List;
import java.util.regex.Matcher;
import java.util.regex.Pattern;
import java.util.stream.Stream;

/**
 * A tool, not a test: breaks the source once for each boundary case, as src/test/breaks.txt tells, and looks
 * whether the test of that name fails then. Compile the tests into a directory, then: java -cp DIR Breaks DIR
 */
public final class Breaks {
    private static final Path SOURCE = Path.of("src/main/java/StoneReaders.java");
    private static final Path TOLD = Path.of("src/test/breaks.txt");

    private Breaks() {
    }

    private record Break(String name, String text, String by) {
    }

    public static void main(String[] args) throws Exception {
        List<Break> all = read(Files.readString(SOURCE), Files.readAllLines(TOLD));
        long held = all.parallelStream().filter(one -> isNoticed(one, args[0])).count();
        System.out.println(held + " of " + all.size() + " breaks are noticed by the test that bears the name");
        if (held != all.size()) {
            System.exit(1);
        }
    }

    /** A name; then "@ text" for where to begin to look, "- old", "+ new"; an empty line ends it. */
    private static List<Break> read(String source, List<String> lines) {
        List<Break> all = new ArrayList<>();
        String name = "";
        String text = source;
        String from = "";
        String old = "";
        String by = "";
        for (String line : lines) {
            if (line.startsWith("  @ ")) {
                from = line.substring(4);
            } else if (line.startsWith("  - ")) {
                old = line.substring(4);
            } else if (line.startsWith("  + ")) {
                by = line.substring(4);
                text = broken(name, text, from, old, by);
                from = "";
            } else if (line.isBlank() && !name.isEmpty()) {
                all.add(new Break(name, text, by));
                name = "";
                text = source;
            } else if (!line.startsWith("#")) {
                name = line.strip();
            }
        }
        return all;
    }

    private static String broken(String name, String text, String from, String old, String by) {
        Matcher m = patternOf(old).matcher(text);
        int start = from.isEmpty() ? 0 : text.indexOf(from);
        if (start < 0 || !m.find(start)) {
            throw new IllegalStateException(name + ": not found: " + from + " " + old);
        }
        String changed = text.substring(0, m.start()) + by + text.substring(m.end());
        if (from.isEmpty() && m.find()) {
            throw new IllegalStateException(name + ": found twice: " + old);
        }
        return changed;
    }

    /** Any blanks and line ends may stand where a blank stands. */
    private static Pattern patternOf(String text) {
        StringBuilder pattern = new StringBuilder();
        for (String part : text.strip().split(" +")) {
            pattern.append(pattern.length() == 0 ? "" : "\\s+").append(Pattern.quote(part));
        }
        return Pattern.compile(pattern.toString());
    }

    private static boolean isNoticed(Break one, String tests) {
        try {
            Path dir = Files.createTempDirectory("broken");
            Files.writeString(dir.resolve("StoneReaders.java"), one.text);
            String told = run("javac", "-nowarn", "-d", dir.toString(), dir.resolve("StoneReaders.java").toString());
            if (told.isEmpty()) {
                told = run("timeout", "60", "java", "-cp", dir + ":" + tests, "EdgesTest");
            }
            try (Stream<Path> files = Files.list(dir)) {
                for (Path file : files.toList()) {
                    Files.delete(file);
                }
            }
            Files.delete(dir);
            boolean noticed = told.contains(one.name + ": ") && told.contains(" boundary cases\n");
            if (!noticed) {
                String start = told.substring(0, Math.min(told.length(), 400));
                System.out.println("NOT NOTICED: " + one.name + ", by " + one.by + "\n" + start);
            }
            return noticed;
        } catch (IOException | InterruptedException e) {
            throw new IllegalStateException(e);
        }
    }

    private static String run(String... command) throws IOException, InterruptedException {
        Process process = new ProcessBuilder(command).redirectErrorStream(true).start();
        ByteArrayOutputStream told = new ByteArrayOutputStream();
        process.getInputStream().transferTo(new PrintStream(told, true));
        process.waitFor();
        return told.toString();
    }
}
