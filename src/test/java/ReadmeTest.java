import java.io.IOException;
import java.io.StringWriter;
import java.lang.reflect.Method;
import java.lang.reflect.Modifier;
import java.net.URI;
import java.net.URL;
import java.net.URLClassLoader;
import java.nio.file.DirectoryStream;
import java.nio.file.Files;
import java.nio.file.Path;
import java.util.List;
import java.util.regex.Matcher;
import java.util.regex.Pattern;
import javax.tools.JavaFileObject;
import javax.tools.SimpleJavaFileObject;
import javax.tools.ToolProvider;

/** README.md: its example answers what it says, and no call and no test is missing in it. */
public final class ReadmeTest {
    /** A call of the example with what it answers. */
    private static final Pattern ANSWERED = Pattern.compile("(sorter\\..*); +// (-?\\d+): .*");

    private ReadmeTest() {
    }

    public static void main(String[] args) throws Exception {
        String readme = Files.readString(Path.of("README.md"));
        allCalls(readme);
        allTests(readme);
        example(readme);
        Due.end();
    }

    private static void allCalls(String readme) {
        for (Method m : BlockSorter.class.getDeclaredMethods()) {
            if (Modifier.isPublic(m.getModifiers())) {
                contains(readme, "| `" + m.getName() + "(");
            }
        }
        contains(readme, "`new BlockSorter(");
        contains(readme, "`NONE`");
        contains(readme, "`DOWN`");
    }

    private static void allTests(String readme) throws IOException {
        contains(readme, ".ci/run");
        contains(readme, "../shared/tests");
        try (DirectoryStream<Path> tests
                = Files.newDirectoryStream(Path.of("src/test/java"), "*Test.java")) {
            for (Path test : tests) {
                contains(readme, "`" + test.getFileName().toString().replace(".java", "") + "`");
            }
        }
    }

    private static void contains(String readme, String text) {
        Due.is("README.md has " + text, readme.contains(text) ? 1 : 0, 1);
    }

    private static void example(String readme) throws Exception {
        String block = readme.split("```java\n")[1].split("```")[0];
        StringBuilder code = new StringBuilder("public final class Example {\n"
                + "public static void show() {\n");
        int answers = 0;
        for (String line : block.split("\n")) {
            Matcher answered = ANSWERED.matcher(line);
            if (answered.matches()) {
                answers++;
                code.append("ReadmeTest.due(\"").append(answered.group(1)).append("\", ")
                        .append(answered.group(1)).append(", ").append(answered.group(2))
                        .append(");\n");
            } else {
                code.append(line).append('\n');
            }
        }
        Due.is("README.md: its example has answers", answers > 10 ? 1 : 0, 1);
        show(code.append("}}").toString());
    }

    public static void due(String what, long got, long want) {
        Due.is("README.md: " + what, got, want);
    }

    private static void show(String code) throws Exception {
        JavaFileObject source = new SimpleJavaFileObject(URI.create("string:///Example.java"),
                JavaFileObject.Kind.SOURCE) {
            @Override
            public CharSequence getCharContent(boolean ignoreEncodingErrors) {
                return code;
            }
        };
        Path out = Files.createTempDirectory("readme");
        StringWriter said = new StringWriter();
        boolean compiled = ToolProvider.getSystemJavaCompiler().getTask(said, null, null,
                List.of("-d", out.toString(), "-cp", System.getProperty("java.class.path")),
                null, List.of(source)).call();
        Due.is("README.md: its example compiles", said.toString(), "");
        if (compiled) {
            try (URLClassLoader loader = new URLClassLoader(new URL[] {out.toUri().toURL()})) {
                loader.loadClass("Example").getMethod("show").invoke(null);
            }
            Files.delete(out.resolve("Example.class"));
        }
        Files.delete(out);
    }
}
