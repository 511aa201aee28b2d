import java.io.IOException;
import java.net.URI;
import java.net.URL;
import java.net.URLClassLoader;
import java.nio.file.Files;
import java.nio.file.Path;
import java.util.ArrayList;
import java.util.List;
import java.util.regex.Matcher;
import java.util.regex.Pattern;
import javax.tools.JavaCompiler;
import javax.tools.JavaFileObject;
import javax.tools.SimpleJavaFileObject;
import javax.tools.ToolProvider;

/** The example in README.md is compiled and run as it stands there, and answers what it says it answers. */
public final class ReadmeTest {
    private static final Pattern EXAMPLE = Pattern.compile("```java\\n(.*?)```", Pattern.DOTALL);
    private static final Pattern CALL = Pattern.compile("(x\\.(?!discard).*\\));(.*)");
    private static final Pattern ANSWER = Pattern.compile(" *// (-?\\d+)(:.*)?");

    public static void main(String[] args) throws IOException, ReflectiveOperationException {
        Matcher example = EXAMPLE.matcher(Files.readString(Path.of("README.md")));
        int examples = 0;
        while (example.find()) {
            examples++;
            answersAsItSays(example.group(1));
        }
        Check.due("examples in README.md", 1, examples);
        Check.end("ReadmeTest");
    }

    private static void answersAsItSays(String example) throws IOException, ReflectiveOperationException {
        List<String> calls = new ArrayList<>();
        List<String> due = new ArrayList<>();
        StringBuilder code = new StringBuilder();
        for (String line : example.split("\n")) {
            Matcher call = CALL.matcher(line);
            if (call.matches()) {
                Matcher answer = ANSWER.matcher(call.group(2));
                Check.due("README.md tells the answer in: " + line, 1, answer.matches() ? 1 : 0);
                calls.add(call.group(1));
                due.add(answer.matches() ? answer.group(1) : "nothing");
                code.append("answers.add(").append(call.group(1)).append(");\n");
            } else {
                code.append(line).append('\n');
            }
        }
        List<?> answers = run(code.toString());
        Check.due("answers of the example", calls.size(), answers.size());
        for (int at = 0; at < answers.size(); at++) {
            Check.due("README.md: " + calls.get(at), due.get(at), answers.get(at).toString());
        }
    }

    private static List<?> run(String code) throws IOException, ReflectiveOperationException {
        Path folder = Files.createTempDirectory("readme");
        try {
            compile(folder, "public final class Example {\n"
                + "public static java.util.List<Integer> answers() {\n"
                + "java.util.List<Integer> answers = new java.util.ArrayList<>();\n"
                + code + "return answers;\n}\n}\n");
            URL[] urls = {folder.toUri().toURL()};
            try (URLClassLoader loader = new URLClassLoader(urls, ReadmeTest.class.getClassLoader())) {
                return (List<?>) loader.loadClass("Example").getMethod("answers").invoke(null);
            }
        } finally {
            Files.deleteIfExists(folder.resolve("Example.class"));
            Files.delete(folder);
        }
    }

    private static void compile(Path folder, String code) {
        JavaCompiler compiler = ToolProvider.getSystemJavaCompiler();
        List<String> options = List.of("-classpath", System.getProperty("java.class.path"), "-d", folder.toString());
        JavaFileObject source = new SimpleJavaFileObject(URI.create("string:///Example.java"),
                JavaFileObject.Kind.SOURCE) {
            @Override
            public CharSequence getCharContent(boolean ignoreEncodingErrors) {
                return code;
            }
        };
        Check.due("README.md's example compiles", 1,
            compiler.getTask(null, null, null, options, null, List.of(source)).call() ? 1 : 0);
    }
}
