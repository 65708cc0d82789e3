import java.io.IOException;
import java.io.StringWriter;
import java.lang.reflect.Field;
import java.lang.reflect.Method;
import java.lang.reflect.Modifier;
import java.net.URI;
import java.nio.file.Files;
import java.nio.file.Path;
import java.util.ArrayList;
import java.util.List;
import java.util.regex.Matcher;
import java.util.regex.Pattern;
import javax.tools.JavaCompiler;
import javax.tools.JavaFileObject;
import javax.tools.SimpleJavaFileObject;
import javax.tools.ToolProvider;

/**
 * README.md tells the truth: its example is compiled and carried out, and each call must answer
 * the number that stands behind it; its tables name every call and every constant of the class.
 */
public final class ReadmeTest {
    private static final Pattern CALL = Pattern.compile("(d\\.\\w+\\(.*\\)); +// (-?\\d+)(:.*)?");

    private static int wrong = 0;

    private static void fault(String text) {
        wrong++;
        System.out.println("README.md: " + text);
    }

    /** Called from the example. */
    public static void due(String call, int got, int told) {
        if (got != told) {
            fault(call + " answers " + got + ", told is " + told);
        }
    }

    private static List<String> exampleIn(List<String> readme) {
        int begin = readme.indexOf("```java");
        int end = begin + readme.subList(begin + 1, readme.size()).indexOf("```") + 1;
        return readme.subList(begin + 1, end);
    }

    private static List<String> checked(List<String> example) {
        List<String> source = new ArrayList<>();
        for (String line : example) {
            Matcher call = CALL.matcher(line);
            source.add(call.matches()
                    ? "ReadmeTest.due(\"" + call.group(1) + "\", " + call.group(1) + ", " + call.group(2) + ");"
                    : line);
        }
        return source;
    }

    private static void carryOut(List<String> statements) throws ReflectiveOperationException {
        String source = "public class Example { public static void main(String[] args) {\n"
                + String.join("\n", statements) + "\n} }\n";
        JavaFileObject file = new SimpleJavaFileObject(URI.create("string:///Example.java"), JavaFileObject.Kind.SOURCE) {
            @Override
            public CharSequence getCharContent(boolean ignoreEncodingErrors) {
                return source;
            }
        };
        // Beside this test's own classes, so that it is found where they are.
        String classes = System.getProperty("java.class.path");
        JavaCompiler compiler = ToolProvider.getSystemJavaCompiler();
        StringWriter messages = new StringWriter();
        List<String> options = List.of("-d", classes, "-cp", classes);
        if (!compiler.getTask(messages, null, null, options, null, List.of(file)).call()) {
            fault("the example does not compile:\n" + messages);
            return;
        }
        Class.forName("Example").getMethod("main", String[].class).invoke(null, (Object) new String[0]);
    }

    private static void checkExample(List<String> readme) throws ReflectiveOperationException {
        List<String> example = exampleIn(readme);
        for (Method method : DeltaCycles.class.getMethods()) {
            boolean own = method.getDeclaringClass() == DeltaCycles.class;
            if (own && example.stream().noneMatch(line -> line.startsWith("d." + method.getName() + "("))) {
                fault("the example does not call " + method.getName());
            }
        }
        for (String line : example) {
            if (line.startsWith("d.") && !line.startsWith("d.reset()") && !CALL.matcher(line).matches()) {
                fault("no answer stands behind " + line);
            }
        }
        carryOut(checked(example));
    }

    private static void checkTables(List<String> readme) throws IllegalAccessException {
        for (Method method : DeltaCycles.class.getDeclaredMethods()) {
            String start = "| `" + method.getName() + "(";
            boolean called = readme.stream().anyMatch(line -> line.startsWith(start));
            if (called != Modifier.isPublic(method.getModifiers())) {
                fault("the table of calls and " + method.getName());
            }
        }
        for (Field field : DeltaCycles.class.getFields()) {
            String start = "| `" + field.getName() + "` | " + field.getInt(null) + " |";
            if (readme.stream().noneMatch(line -> line.startsWith(start))) {
                fault("the table of constants and " + field.getName());
            }
        }
    }

    public static void main(String[] args) throws IOException, ReflectiveOperationException {
        List<String> readme = Files.readAllLines(Path.of("README.md"));
        checkExample(readme);
        checkTables(readme);
        System.out.println(wrong == 0 ? "README.md tells the truth" : wrong + " faults");
        if (wrong != 0) {
            System.exit(1);
        }
    }
}
