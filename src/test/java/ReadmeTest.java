import java.io.IOException;
import java.lang.reflect.Method;
import java.lang.reflect.Modifier;
import java.net.URL;
import java.net.URLClassLoader;
import java.nio.file.Files;
import java.nio.file.Path;
import java.util.ArrayList;
import java.util.List;
import java.util.regex.Matcher;
import java.util.regex.Pattern;
import javax.tools.ToolProvider;

/** README.md's example compiles as it stands there, answers what is written behind it, and no call is left out. */
public final class ReadmeTest {
    private static final Pattern TOLD = Pattern.compile("\\s*(?:int|long|boolean) (\\w+) = .*;\\s*//.*: (-?\\w+)");
    private static final int FEWEST_TOLD = 15;
    private static int wrong = 0;

    private static void fail(String what) {
        wrong++;
        System.out.println("README.md: " + what);
    }

    private static List<List<String>> javaBlocks(List<String> lines) {
        List<List<String>> blocks = new ArrayList<>();
        List<String> block = null;
        for (String line : lines) {
            if (block == null && line.equals("```java")) {
                block = new ArrayList<>();
            } else if (block != null && line.equals("```")) {
                blocks.add(block);
                block = null;
            } else if (block != null) {
                block.add(line);
            }
        }
        return blocks;
    }

    /** A block of methods goes into the class, one of statements into main, each told answer behind its line. */
    private static String program(List<List<String>> blocks) {
        StringBuilder methods = new StringBuilder();
        StringBuilder main = new StringBuilder();
        int told = 0;
        for (List<String> block : blocks) {
            boolean isMethods = !block.isEmpty() && block.get(0).startsWith("static ");
            for (String line : block) {
                (isMethods ? methods : main).append(line).append('\n');
                Matcher m = TOLD.matcher(line);
                if (!isMethods && m.matches()) {
                    told++;
                    main.append("if (").append(m.group(1)).append(" != ").append(m.group(2)).append(") wrong.add(\"")
                            .append(m.group(1)).append(" is \" + ").append(m.group(1)).append(");\n");
                }
            }
        }
        if (told < FEWEST_TOLD) fail("only " + told + " answers are told behind the example's lines");
        return "public final class Example {\n" + methods
                + "public static java.util.List<String> tryIt() {\n"
                + "java.util.List<String> wrong = new java.util.ArrayList<>();\n" + main + "return wrong;\n}\n}\n";
    }

    private static void example(List<String> lines) throws IOException, ReflectiveOperationException {
        Path dir = Files.createTempDirectory("readme");
        Path source = dir.resolve("Example.java");
        try {
            Files.writeString(source, program(javaBlocks(lines)));
            int code = ToolProvider.getSystemJavaCompiler().run(null, null, null,
                    "-cp", System.getProperty("java.class.path"), "-d", dir.toString(), source.toString());
            if (code != 0) {
                fail("the example does not compile");
                return;
            }
            try (URLClassLoader loader = new URLClassLoader(new URL[] {dir.toUri().toURL()},
                    ReadmeTest.class.getClassLoader())) {
                List<?> off = (List<?>) loader.loadClass("Example").getMethod("tryIt").invoke(null);
                for (Object o : off) fail(o + ", not what is told");
            }
        } finally {
            for (String name : new String[] {"Example.java", "Example.class"}) Files.deleteIfExists(dir.resolve(name));
            Files.deleteIfExists(dir);
        }
    }

    private static void everyCallIsNamed(String text) {
        for (Method m : BellPlate.class.getDeclaredMethods()) {
            if (Modifier.isPublic(m.getModifiers()) && !text.contains("`" + m.getName() + "`")) {
                fail("does not name " + m.getName());
            }
        }
    }

    private static void everyTestIsNamed(String text) throws IOException {
        try (var files = Files.newDirectoryStream(Path.of("src/test/java"), "*Test.java")) {
            for (Path p : files) {
                String name = p.getFileName().toString().replace(".java", "");
                if (!text.contains("`" + name + "`")) fail("does not name " + name);
            }
        }
    }

    public static void main(String[] args) throws IOException, ReflectiveOperationException {
        Path readme = Path.of("README.md");
        String text = Files.readString(readme);
        example(Files.readAllLines(readme));
        everyCallIsNamed(text);
        everyTestIsNamed(text);
        System.out.println(wrong == 0 ? "README.md says what is so" : wrong + " are not so");
        if (wrong != 0) System.exit(1);
    }
}
