import java.io.IOException;
import java.lang.reflect.Method;
import java.lang.reflect.Modifier;
import java.net.URL;
import java.net.URLClassLoader;
import java.nio.file.Files;
import java.nio.file.Path;
import java.util.ArrayList;
import java.util.List;
import java.util.regex.Matcher;
import java.util.regex.Pattern;
import javax.tools.JavaCompiler;
import javax.tools.ToolProvider;

/** The examples of README.md answer as it says; they are compiled from its very lines. */
public final class ReadmeTest {
    // A call whose answer is told behind it: its type and name, if it is kept, the call, the answer.
    private static final Pattern TOLD = Pattern.compile("(?:(int|long) (\\w+) = )?(.*\\));\\s+// (-?\\d+)(?:: .*)?");
    private static final Path BUILD = Path.of("build", "readme");
    private static final int LEAST_TOLD = 50;

    public static void main(String[] args) throws Exception {
        String readme = Files.readString(Path.of("README.md"));
        int wrong = unnamed(readme) + examples(readme);
        System.out.println(wrong == 0 ? "README.md is as the class is" : wrong + " faults of README.md");
        if (wrong != 0) {
            System.exit(1);
        }
    }

    /** How many calls of the face README.md doesn't name. */
    private static int unnamed(String readme) {
        int wrong = 0;
        for (Method m : LockedToAnothers.class.getDeclaredMethods()) {
            if (Modifier.isPublic(m.getModifiers()) && !readme.contains("`" + m.getName() + "`")) {
                System.out.println("README.md doesn't name " + m.getName());
                wrong++;
            }
        }
        return wrong;
    }

    private static int examples(String readme) throws Exception {
        StringBuilder members = new StringBuilder();
        StringBuilder body = new StringBuilder();
        int told = 0;
        for (List<String> block : blocks(readme)) {
            if (block.get(0).startsWith("static ")) {
                members.append(String.join("\n", block)).append('\n');
                continue;
            }
            for (String line : block) {
                Matcher m = TOLD.matcher(line);
                boolean tells = m.matches();
                body.append(tells ? asDue(m) : line).append('\n');
                told += tells ? 1 : 0;
                if (!tells && line.contains("//")) {
                    System.out.println("README.md tells no answer: " + line);
                    return 1;
                }
            }
        }
        if (told < LEAST_TOLD) {
            System.out.println("README.md tells but " + told + " answers");
            return 1;
        }
        return answered(members.toString(), body.toString());
    }

    /** The lines of each part of README.md that is Java. */
    private static List<List<String>> blocks(String readme) {
        List<List<String>> blocks = new ArrayList<>();
        List<String> block = null;
        for (String line : readme.split("\n")) {
            if (line.equals("```java")) {
                block = new ArrayList<>();
            } else if (line.equals("```") && block != null) {
                blocks.add(block);
                block = null;
            } else if (block != null) {
                block.add(line);
            }
        }
        return blocks;
    }

    private static String asDue(Matcher m) {
        String written = m.group(3).replace("\\", "\\\\").replace("\"", "\\\"");
        String due = "due(\"" + written + "\", ";
        if (m.group(2) == null) {
            return due + m.group(3) + ", " + m.group(4) + "L);";
        }
        return m.group(1) + " " + m.group(2) + " = " + m.group(3) + "; " + due + m.group(2) + ", " + m.group(4) + "L);";
    }

    private static int answered(String members, String body) throws Exception {
        String source = "public final class ReadmeExamples {\n"
            + "private static int wrong = 0;\n"
            + "private static void due(String call, long got, long want) {\n"
            + "if (got != want) { wrong++; System.out.println(call + \" answered \" + got + \", README.md says \" + want); }\n"
            + "}\n" + members + "public static int run() {\n" + body + "return wrong;\n}\n}\n";
        Files.createDirectories(BUILD);
        Path file = BUILD.resolve("ReadmeExamples.java");
        Files.writeString(file, source);
        JavaCompiler compiler = ToolProvider.getSystemJavaCompiler();
        String path = System.getProperty("java.class.path");
        if (compiler == null || compiler.run(null, null, null, "-d", BUILD.toString(), "-cp", path, file.toString()) != 0) {
            System.out.println("the examples of README.md don't compile");
            return 1;
        }
        return run();
    }

    private static int run() throws IOException, ReflectiveOperationException {
        URL[] from = {BUILD.toUri().toURL()};
        try (URLClassLoader loader = new URLClassLoader(from, LockedToAnothers.class.getClassLoader())) {
            return (Integer) loader.loadClass("ReadmeExamples").getMethod("run").invoke(null);
        }
    }
}
