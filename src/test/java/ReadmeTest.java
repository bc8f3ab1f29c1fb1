import java.io.IOException;
import java.net.URL;
import java.net.URLClassLoader;
import java.nio.file.Files;
import java.nio.file.Path;
import java.util.ArrayList;
import java.util.List;
import java.util.regex.Matcher;
import java.util.regex.Pattern;
import javax.tools.ToolProvider;

/**
 * What README.md shows is as the class answers: its java blocks are made into one program, compiled and
 * run. A line "call; // answer: words" is looked at; the answer is a number, true, false, a constant of
 * the class, or "throws" with an exception's name. A block that begins with "static" tells methods.
 */
public final class ReadmeTest {
    private static final Check CHECK = new Check();
    private static final Pattern SHOWN = Pattern.compile(
            "\\s*(\\S.*?);\\s*// (throws \\w+|true|false|-?\\d+|CannonPost\\.\\w+)(:.*)?");
    private static final String NAME = "ReadmeShown";

    private ReadmeTest() {
    }

    public static void main(String[] args) throws Exception {
        List<List<String>> blocks = javaBlocks(Files.readAllLines(Path.of("README.md")));
        CHECK.holds("README.md has java blocks", !blocks.isEmpty());
        everyCallIsShown(blocks);
        runProgram(program(blocks));
        CHECK.close();
    }

    /** Called by the program that is made of README.md, which another loader loads: so it is public. */
    public static void look(String call, Object got, Object due) {
        CHECK.due(call + " [" + got + ", README.md shows " + due + "] alike", got.equals(due) ? 1 : 0, 1);
    }

    private static List<List<String>> javaBlocks(List<String> lines) {
        List<List<String>> blocks = new ArrayList<>();
        List<String> block = null;
        for (String line : lines) {
            if (line.equals("```java")) {
                block = new ArrayList<>();
            } else if (line.equals("```") && block != null) {
                blocks.add(block);
                block = null;
            } else if (block != null) {
                block.add(line);
            }
        }
        return blocks;
    }

    /** Each method of the face is shown at least once, so that none can be told wrong unseen. */
    private static void everyCallIsShown(List<List<String>> blocks) {
        StringBuilder all = new StringBuilder();
        for (List<String> block : blocks) {
            all.append(String.join("\n", block)).append('\n');
        }
        for (java.lang.reflect.Method method : CannonPost.class.getMethods()) {
            if (method.getDeclaringClass() == CannonPost.class) {
                CHECK.holds("README.md shows " + method.getName(), all.indexOf("post." + method.getName() + "(") >= 0);
            }
        }
    }

    private static String program(List<List<String>> blocks) {
        StringBuilder methods = new StringBuilder();
        StringBuilder body = new StringBuilder();
        for (List<String> block : blocks) {
            boolean tellsMethods = !block.isEmpty() && block.get(0).startsWith("static");
            for (String line : block) {
                (tellsMethods ? methods : body).append(tellsMethods ? line : looked(line)).append('\n');
            }
        }
        return "public final class " + NAME + " {\n" + methods
                + "public static void main(String[] args) {\n" + body + "}\n}\n";
    }

    private static String looked(String line) {
        Matcher shown = SHOWN.matcher(line);
        if (!shown.matches()) {
            CHECK.holds("README.md tells the answer of: " + line, line.equals("CannonPost post = new CannonPost();"));
            return line;
        }
        String call = shown.group(1);
        String text = '"' + call.replace("\\", "\\\\").replace("\"", "\\\"") + '"';
        String due = shown.group(2);
        if (due.startsWith("throws ")) {
            String thrown = due.substring("throws ".length());
            return "{ String got = \"nothing\"; try { " + call + "; } catch (RuntimeException e) { "
                    + "got = e.getClass().getSimpleName(); } ReadmeTest.look(" + text + ", got, \"" + thrown + "\"); }";
        }
        return "ReadmeTest.look(" + text + ", " + call + ", " + due + ");";
    }

    private static void runProgram(String program) throws Exception {
        Path folder = Files.createTempDirectory("readme");
        try {
            Path file = folder.resolve(NAME + ".java");
            Files.writeString(file, program);
            String own = System.getProperty("java.class.path");
            int failed = ToolProvider.getSystemJavaCompiler().run(null, null, null,
                    "-proc:none", "-cp", own, "-d", folder.toString(), file.toString());
            CHECK.due("README.md's program compiles: javac", failed, 0);
            if (failed == 0) {
                invoke(folder);
            }
        } finally {
            empty(folder);
        }
    }

    private static void invoke(Path folder) throws Exception {
        try (URLClassLoader loader = new URLClassLoader(new URL[] {folder.toUri().toURL()})) {
            loader.loadClass(NAME).getMethod("main", String[].class).invoke(null, (Object) new String[0]);
        }
    }

    private static void empty(Path folder) throws IOException {
        try (var files = Files.list(folder)) {
            for (Path file : (Iterable<Path>) files::iterator) {
                Files.delete(file);
            }
        }
        Files.delete(folder);
    }
}
