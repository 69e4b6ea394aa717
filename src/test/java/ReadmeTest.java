import java.nio.file.Files;
import java.nio.file.Path;
import java.util.regex.Matcher;
import java.util.regex.Pattern;
import javax.tools.JavaCompiler;
import javax.tools.ToolProvider;

/** What README.md shows is played: a call there answers what the comment behind it begins with. */
public final class ReadmeTest {
    private static final Pattern SHOWN = Pattern.compile("(x\\..*\\));\\s*// (-?\\d+|true|false)\\b.*");
    private static int shown;

    private ReadmeTest() {
    }

    public static void main(String[] args) throws Exception {
        StringBuilder functions = new StringBuilder();
        StringBuilder calls = new StringBuilder();
        Matcher block = Pattern.compile("(?s)```java\n(.*?)```").matcher(Files.readString(Path.of("README.md")));
        while (block.find()) {
            String text = block.group(1);
            if (text.startsWith("static")) {
                functions.append(text);
            } else {
                calls.append(played(text));
            }
        }
        Due.due("calls shown in README.md", shown > 20, true);
        play("final class Shown {\n" + functions + "public static void main(String[] args) {\n" + calls
                + "Due.end();\n}\n}\n");
    }

    private static String played(String text) {
        StringBuilder lines = new StringBuilder();
        for (String line : text.split("\n")) {
            Matcher m = SHOWN.matcher(line);
            if (m.matches()) {
                shown++;
                lines.append("Due.due(\"").append(m.group(1)).append(" in README.md\", ").append(m.group(1))
                        .append(", ").append(m.group(2)).append(");\n");
            } else {
                lines.append(line).append('\n');
            }
        }
        return lines.toString();
    }

    private static void play(String source) throws Exception {
        String tests = System.getProperty("java.class.path");
        Path dir = Files.createTempDirectory("readme");
        Path file = Files.writeString(dir.resolve("Shown.java"), source);
        JavaCompiler javac = ToolProvider.getSystemJavaCompiler();
        int failed = javac.run(null, null, null, "-cp", tests, "-d", dir.toString(), file.toString());
        Due.due("README.md compiles", failed, 0);
        int ended = failed != 0 ? 1 : new ProcessBuilder("java", "-cp", tests + ":" + dir, "Shown").inheritIO().start().waitFor();
        Due.due("README.md's calls end with", ended, 0);
        for (String name : new String[] {"Shown.class", "Shown.java"}) {
            Files.deleteIfExists(dir.resolve(name));
        }
        Files.delete(dir);
        Due.end();
    }
}
