import java.net.URI;
import java.net.URL;
import java.net.URLClassLoader;
import java.nio.file.Files;
import java.nio.file.Path;
import java.util.Comparator;
import java.util.List;
import java.util.regex.Matcher;
import java.util.regex.Pattern;
import java.util.stream.Stream;
import javax.tools.JavaFileObject;
import javax.tools.SimpleJavaFileObject;
import javax.tools.ToolProvider;

/** The examples in README.md are run as they stand there, and answer what their comments say. */
public final class ReadmeTests extends Checks {
    private static final Pattern BLOCK = Pattern.compile("```java\n(.*?)```", Pattern.DOTALL);
    private static final Pattern TOLD = Pattern.compile("(x\\.\\w+\\(.*\\)); +// (-?\\d+|true|false|[A-Z]+)(:.*)?");

    public static void main(String[] args) throws Exception {
        Matcher block = BLOCK.matcher(Files.readString(Path.of("README.md")));
        int examples = 0;
        while (block.find()) {
            examples++;
            section("README.md, example " + examples);
            due("the example", compileAndRun(program(block.group(1))), "");
        }
        section("README.md");
        due("how many examples", examples, 2);
        end();
    }

    /** The example as a class whose method answers every call that did not answer what is told beside it. */
    private static String program(String example) {
        StringBuilder text = new StringBuilder("public class Example {\npublic static String run() {\n");
        text.append("StringBuilder wrong = new StringBuilder();\n");
        int told = 0;
        for (String line : example.split("\n")) {
            Matcher answer = TOLD.matcher(line);
            if (answer.matches()) {
                told++;
                text.append(check(answer.group(1), answer.group(2)));
            } else {
                text.append(line).append('\n');
            }
        }
        due("some answers are told", told > 9, true);
        return text.append("return wrong.toString();\n}\n}\n").toString();
    }

    private static String check(String call, String told) {
        String want = Character.isUpperCase(told.charAt(0)) ? "RoamingRegisters." + told : told;
        return "{ var got = " + call + ";\nif (got != " + want + ") wrong.append(\"" + call
                + " answers \" + got + \", not " + told + "; \"); }\n";
    }

    private static String compileAndRun(String program) throws Exception {
        Path out = Files.createTempDirectory("readme");
        try {
            boolean compiled = ToolProvider.getSystemJavaCompiler().getTask(null, null, null,
                    List.of("-d", out.toString(), "-cp", System.getProperty("java.class.path"), "-proc:none"),
                    null, List.of(source(program))).call();
            return compiled ? run(out) : "does not compile";
        } finally {
            try (Stream<Path> made = Files.walk(out)) {
                made.sorted(Comparator.reverseOrder()).forEach(path -> path.toFile().delete());
            }
        }
    }

    private static JavaFileObject source(String program) {
        return new SimpleJavaFileObject(URI.create("string:///Example.java"), JavaFileObject.Kind.SOURCE) {
            @Override
            public CharSequence getCharContent(boolean ignoreEncodingErrors) {
                return program;
            }
        };
    }

    private static String run(Path out) throws Exception {
        URL[] path = {out.toUri().toURL()};
        try (URLClassLoader loader = new URLClassLoader(path, ReadmeTests.class.getClassLoader())) {
            return (String) loader.loadClass("Example").getMethod("run").invoke(null);
        }
    }
}
