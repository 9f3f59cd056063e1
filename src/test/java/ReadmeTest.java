import java.io.IOException;
import java.lang.reflect.Method;
import java.lang.reflect.Modifier;
import java.net.URL;
import java.net.URLClassLoader;
import java.nio.file.Files;
import java.nio.file.Path;
import java.util.List;
import java.util.regex.MatchResult;
import java.util.regex.Pattern;
import java.util.stream.Stream;
import javax.tools.JavaCompiler;
import javax.tools.ToolProvider;

/** The code of README.md is compiled and run: each call must answer what stands behind it. */
public final class ReadmeTest {
    private static final Pattern BLOCK = Pattern.compile("(?s)```java\n(.*?)```");
    private static final Pattern CALL = Pattern.compile("(?m)^(x\\..*?\\)); +// (-?\\d+)(:.*)?$");

    private final Due due = new Due("ReadmeTest");

    public static void main(String[] args) throws Exception {
        ReadmeTest t = new ReadmeTest();
        List<MatchResult> blocks = BLOCK.matcher(Files.readString(Path.of("README.md"))).results().toList();
        t.due.is("blocks of code: how to feed, and the calls", blocks.size(), 2);
        if (blocks.size() == 2) {
            t.showsAll(blocks.get(0).group(1), blocks.get(1).group(1));
            t.answersAsTold(blocks.get(0).group(1), blocks.get(1).group(1));
        }
        t.due.end();
    }

    /** Every call of the face is there, and none without its answer. */
    private void showsAll(String feeding, String calls) {
        for (Method method : RailPasses.class.getDeclaredMethods()) {
            if (Modifier.isPublic(method.getModifiers())) {
                due.holds(method.getName() + " is shown", (feeding + calls).contains("x." + method.getName() + "("));
            }
        }
        for (String row : calls.split("\n")) {
            if (row.startsWith("x.")) {
                due.holds("the answer is told: " + row, CALL.matcher(row).matches());
            }
        }
    }

    private void answersAsTold(String feeding, String calls) throws Exception {
        List<MatchResult> told = CALL.matcher(calls).results().toList();
        String body = CALL.matcher(calls).replaceAll("answers[n++] = $1;");
        String code = "public final class ReadmeCode {\n" + feeding + "public static int[] run() {\nint n = 0;\n"
            + "int[] answers = new int[" + told.size() + "];\n" + body + "return answers;\n}\n}\n";
        int[] answers = answersOf(code);
        due.is("answers", answers.length, told.size());
        for (int i = 0; i < answers.length && i < told.size(); i++) {
            due.is(told.get(i).group(1), answers[i], Integer.parseInt(told.get(i).group(2)));
        }
    }

    private int[] answersOf(String code) throws Exception {
        Path dir = Files.createTempDirectory("readme");
        try (URLClassLoader loader = new URLClassLoader(new URL[] {dir.toUri().toURL()}, ReadmeTest.class.getClassLoader())) {
            Path source = Files.writeString(dir.resolve("ReadmeCode.java"), code);
            JavaCompiler compiler = ToolProvider.getSystemJavaCompiler();
            int failed = compiler.run(null, null, null, "-cp", System.getProperty("java.class.path"),
                "-d", dir.toString(), source.toString());
            due.is("javac of README.md's code", failed, 0);
            return failed == 0 ? (int[]) loader.loadClass("ReadmeCode").getMethod("run").invoke(null) : new int[0];
        } finally {
            remove(dir);
        }
    }

    private static void remove(Path dir) throws IOException {
        try (Stream<Path> files = Files.list(dir)) {
            for (Path file : files.toList()) {
                Files.delete(file);
            }
        }
        Files.delete(dir);
    }
}
