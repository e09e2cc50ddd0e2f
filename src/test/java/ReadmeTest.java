import java.io.IOException;
import java.io.StringWriter;
import java.net.URL;
import java.net.URLClassLoader;
import java.nio.charset.StandardCharsets;
import java.nio.file.Files;
import java.nio.file.Path;
import java.util.Comparator;
import java.util.List;
import java.util.regex.Matcher;
import java.util.regex.Pattern;
import java.util.stream.Collectors;
import java.util.stream.Stream;
import javax.tools.JavaCompiler;
import javax.tools.ToolProvider;

/** What README.md shows is run: each line whose comment begins with a number answers that. */
public final class ReadmeTest {
    private static final Path README = Path.of("README.md");
    private static final Pattern EXAMPLE = Pattern.compile("```java\n(.*?)```", Pattern.DOTALL);
    private static final Pattern ANSWERED = Pattern.compile("int (\\w+) = .*; *// (-?\\d+): .*");
    private static final int ANSWERS_LEAST = 20;

    public static void main(String[] args) throws Exception {
        Matcher example = EXAMPLE.matcher(Files.readString(README, StandardCharsets.UTF_8));
        if (!example.find()) {
            fail("README.md shows no use");
        }
        StringBuilder lines = new StringBuilder();
        int answers = 0;
        for (String line : example.group(1).split("\n")) {
            lines.append(line).append('\n');
            Matcher answered = ANSWERED.matcher(line);
            if (answered.matches()) {
                answers++;
                lines.append("if (" + answered.group(1) + " != " + answered.group(2) + ") { wrong += \"README.md: "
                    + answered.group(1) + " is \" + " + answered.group(1) + " + \"\\n\"; }\n");
            }
        }
        if (answers < ANSWERS_LEAST) {
            fail("README.md tells but " + answers + " answers");
        }
        String wrong = runOf(lines.toString());
        if (!wrong.isEmpty()) {
            fail(wrong);
        }
        System.out.println("README.md is as it says: " + answers + " answers");
    }

    /** What its checks find wrong. */
    private static String runOf(String lines) throws Exception {
        Path dir = Files.createTempDirectory("readme");
        try {
            Path file = dir.resolve("Example.java");
            Files.writeString(file, "public final class Example { public static String wrong() { String wrong = \"\";\n"
                + lines + "return wrong; } }\n");
            compile(dir, file);
            try (URLClassLoader loader = new URLClassLoader(new URL[] {dir.toUri().toURL()})) {
                return (String) loader.loadClass("Example").getMethod("wrong").invoke(null);
            }
        } finally {
            remove(dir);
        }
    }

    private static void compile(Path dir, Path file) {
        JavaCompiler compiler = ToolProvider.getSystemJavaCompiler();
        StringWriter said = new StringWriter();
        List<String> options = List.of("-d", dir.toString(), "-cp", System.getProperty("java.class.path"));
        boolean compiled = compiler.getTask(said, null, null, options, null,
            compiler.getStandardFileManager(null, null, null).getJavaFileObjects(file)).call();
        if (!compiled) {
            throw new IllegalStateException("README.md's use does not compile: " + said);
        }
    }

    private static void remove(Path dir) throws IOException {
        List<Path> all;
        try (Stream<Path> walk = Files.walk(dir)) {
            all = walk.sorted(Comparator.reverseOrder()).collect(Collectors.toList());
        }
        for (Path p : all) {
            Files.delete(p);
        }
    }

    private static void fail(String why) {
        System.out.println(why);
        System.exit(1);
    }
}
