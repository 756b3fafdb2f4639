import java.io.IOException;
import java.lang.reflect.Method;
import java.lang.reflect.Modifier;
import java.net.URL;
import java.net.URLClassLoader;
import java.nio.file.Files;
import java.nio.file.Path;
import java.util.Set;
import java.util.TreeSet;
import java.util.regex.Matcher;
import java.util.regex.Pattern;
import java.util.stream.Stream;
import javax.tools.JavaCompiler;
import javax.tools.ToolProvider;

/** README.md's rows of Java, run as they stand there: each call must answer what stands behind it. */
public final class ReadmeTest {
    private static final Pattern BLOCK = Pattern.compile("(?ms)^```java\n(.*?)^```$");
    private static final Pattern CALL = Pattern.compile("(x\\.(\\w+)\\(.*\\)); +// (-?\\d+|[A-Z]+)\\b.*");

    private static final Set<String> called = new TreeSet<>();

    public static void main(String[] args) throws Exception {
        String program = program(Files.readString(Path.of("README.md")));
        Path dir = Files.createTempDirectory("readme");
        int wrong;
        try {
            wrong = run(program, dir);
        } finally {
            remove(dir);
        }
        wrong += notShown();
        System.out.println(wrong == 0 ? "README.md tells what the class does" : wrong + " rows of README.md are wrong");
        if (wrong != 0) System.exit(1);
    }

    /** Blocks that begin with a static method stand beside main, all others in it, one after another. */
    private static String program(String readme) {
        StringBuilder methods = new StringBuilder();
        StringBuilder body = new StringBuilder();
        Matcher block = BLOCK.matcher(readme);
        while (block.find()) {
            if (block.group(1).startsWith("static ")) methods.append(block.group(1));
            else block.group(1).lines().forEach(line -> body.append(asRow(line)).append('\n'));
        }
        return "public class Readme {\n"
            + "static int wrong = 0;\n"
            + "static void due(String call, long got, long want) {\n"
            + "  if (got != want) { wrong++; System.out.println(call + \" answered \" + got + \", README.md says \" + want); }\n"
            + "}\n" + methods + "public static int run() {\n" + body + "return wrong;\n}\n}\n";
    }

    private static String asRow(String line) {
        Matcher call = CALL.matcher(line);
        if (!call.matches()) return line;
        called.add(call.group(2));
        boolean named = Character.isLetter(call.group(3).charAt(0));
        String want = (named ? "LoserDraws." : "") + call.group(3);
        return "due(\"" + call.group(1) + "\", " + call.group(1) + ", " + want + ");";
    }

    private static int run(String program, Path dir) throws Exception {
        Path source = dir.resolve("Readme.java");
        Files.writeString(source, program);
        JavaCompiler javac = ToolProvider.getSystemJavaCompiler();
        String known = System.getProperty("java.class.path");
        if (javac == null || javac.run(null, null, null, "-cp", known, "-d", dir.toString(), source.toString()) != 0) {
            System.out.println("README.md's rows can't be compiled");
            return 1;
        }
        try (URLClassLoader loader = new URLClassLoader(new URL[] {dir.toUri().toURL()})) {
            Method run = loader.loadClass("Readme").getMethod("run");
            return (Integer) run.invoke(null);
        }
    }

    /** The page must name every call of the face; most of them are shown in a row of their own. */
    private static int notShown() throws IOException {
        String readme = Files.readString(Path.of("README.md"));
        int wrong = 0;
        if (called.size() < 20) {
            wrong++;
            System.out.println("README.md has rows for few calls: " + called);
        }
        for (Method m : LoserDraws.class.getDeclaredMethods()) {
            if (!Modifier.isPublic(m.getModifiers())) continue;
            if (called.contains(m.getName()) || readme.contains("`" + m.getName())) continue;
            wrong++;
            System.out.println("README.md does not tell of " + m.getName());
        }
        return wrong;
    }

    private static void remove(Path dir) throws IOException {
        try (Stream<Path> files = Files.list(dir)) {
            for (Path p : files.toList()) Files.delete(p);
        }
        Files.delete(dir);
    }
}
