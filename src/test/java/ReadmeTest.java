import java.net.URL;
import java.net.URLClassLoader;
import java.nio.file.Files;
import java.nio.file.Path;
import java.util.List;
import java.util.regex.Matcher;
import java.util.regex.Pattern;
import javax.tools.JavaCompiler;
import javax.tools.ToolProvider;

/** Compiles and runs the examples of README.md; a number behind // is the answer that is due. */
public final class ReadmeTest {
    private static final Pattern ANSWER = Pattern.compile("\\s*(?:int (\\w+) = )?(x\\.\\w+\\(.*\\));\\s*// (-?\\d+)(?::.*)?");

    private static int wrong = 0;
    private static int held = 0;

    /** What the compiled examples call. */
    public static void due(int line, long got, long want) {
        held++;
        if (got == want) return;
        wrong++;
        System.out.println("README.md, line " + line + ": answered " + got + ", " + want + " stands there");
    }

    public static void main(String[] args) throws Exception {
        String source = source(Files.readAllLines(Path.of("README.md")));
        Path work = Files.createTempDirectory("readme");
        Path file = work.resolve("Examples.java");
        Files.writeString(file, source);
        JavaCompiler compiler = ToolProvider.getSystemJavaCompiler();
        int told = compiler.run(null, null, null, "-proc:none", "-cp", System.getProperty("java.class.path"), "-d", work.toString(), file.toString());
        if (told != 0) {
            System.out.println(source);
            System.exit(1);
        }
        try (URLClassLoader loader = new URLClassLoader(new URL[] {work.toUri().toURL()}, ReadmeTest.class.getClassLoader())) {
            loader.loadClass("Examples").getMethod("run").invoke(null);
        }
        for (String name : List.of("Examples.class", "Examples.java")) Files.delete(work.resolve(name));
        Files.delete(work);
        System.out.println(held + " answers of README.md, " + wrong + " are not so");
        if (wrong > 0 || held == 0) System.exit(1);
    }

    /** Blocks that begin with static are methods, all others are one method's lines. */
    private static String source(List<String> readme) {
        StringBuilder methods = new StringBuilder(), lines = new StringBuilder();
        StringBuilder into = null;
        for (int i = 0; i < readme.size(); i++) {
            String line = readme.get(i);
            if (line.startsWith("```")) {
                boolean opens = into == null && line.equals("```java");
                into = !opens ? null : readme.get(i + 1).startsWith("static ") ? methods : lines;
            } else if (into != null) {
                into.append(held(i + 1, line)).append('\n');
            }
        }
        return "public final class Examples {\n" + methods + "public static void run() {\n" + lines + "}\n}\n";
    }

    private static String held(int number, String line) {
        Matcher m = ANSWER.matcher(line);
        if (!m.matches()) {
            if (line.contains("//")) throw new IllegalArgumentException("README.md, line " + number + " can't be held: " + line);
            return line;
        }
        String name = m.group(1), answer = m.group(3) + "L";
        return name == null ? "ReadmeTest.due(" + number + ", " + m.group(2) + ", " + answer + ");"
            : "int " + name + " = " + m.group(2) + "; ReadmeTest.due(" + number + ", " + name + ", " + answer + ");";
    }
}
