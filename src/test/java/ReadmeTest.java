import java.io.IOException;
import java.lang.reflect.Method;
import java.lang.reflect.Modifier;
import java.net.URL;
import java.net.URLClassLoader;
import java.nio.file.Files;
import java.nio.file.Path;
import java.util.ArrayList;
import java.util.List;
import java.util.Set;
import java.util.TreeSet;
import java.util.regex.Matcher;
import java.util.regex.Pattern;
import javax.tools.ToolProvider;

/** What README.md shows as calls and answers holds when it is run. */
public final class ReadmeTest {
    private static final Pattern BLOCK = Pattern.compile("```java\n(.*?)```", Pattern.DOTALL);
    private static final Pattern ANSWERED = Pattern.compile("(x\\.\\w+\\(.*\\)); +// (-?\\d+|true|false)(: .*)?");
    private static final Pattern CALLED = Pattern.compile("\\bx\\.(\\w+)\\(");
    private static final String NAME = "ReadmeProgram";

    private final StringBuilder methods = new StringBuilder();
    private final StringBuilder body = new StringBuilder();
    private final List<String> calls = new ArrayList<>();
    private final List<String> due = new ArrayList<>();

    private ReadmeTest() { }

    public static void main(String[] args) throws Exception {
        String page = Files.readString(Path.of("README.md"));
        ReadmeTest test = new ReadmeTest();
        Set<String> called = new TreeSet<>();
        Matcher block = BLOCK.matcher(page);
        while (block.find()) {
            CALLED.matcher(block.group(1)).results().forEach(m -> called.add(m.group(1)));
            test.take(block.group(1));
        }
        everyMethodIsIn(called);
        test.compare(test.answers());
        Check.end();
    }

    private static void everyMethodIsIn(Set<String> called) {
        for (Method method : LanternPeople.class.getDeclaredMethods()) {
            if (Modifier.isPublic(method.getModifiers())) {
                Check.due("README shows " + method.getName(), called.contains(method.getName()), true);
            }
        }
    }

    /** A block that begins with static is a method; the others are one program's lines, each call of x with its answer. */
    private void take(String block) {
        if (block.startsWith("static ")) {
            methods.append(block);
            return;
        }
        for (String line : block.split("\n")) {
            Matcher m = ANSWERED.matcher(line);
            if (m.matches()) {
                calls.add(m.group(1));
                due.add(m.group(2));
                body.append("answers.add(").append(m.group(1)).append(");\n");
            } else {
                Check.due("README tells no answer of " + line, line.startsWith("x."), false);
                body.append(line).append('\n');
            }
        }
    }

    private void compare(List<?> answers) {
        Check.due("answers of README's program", answers.size(), due.size());
        for (int i = 0; i < answers.size() && i < due.size(); i++) {
            Check.due("README's " + calls.get(i), number(String.valueOf(answers.get(i))), number(due.get(i)));
        }
    }

    private static long number(String answer) {
        return answer.equals("true") ? 1 : answer.equals("false") ? 0 : Long.parseLong(answer);
    }

    private List<?> answers() throws Exception {
        Path dir = Files.createTempDirectory("readme");
        try {
            return compile(dir) ? run(dir) : List.of();
        } finally {
            Files.deleteIfExists(dir.resolve(NAME + ".java"));
            Files.deleteIfExists(dir.resolve(NAME + ".class"));
            Files.deleteIfExists(dir);
        }
    }

    private boolean compile(Path dir) throws IOException {
        Path source = dir.resolve(NAME + ".java");
        Files.writeString(source, "public final class " + NAME + " {\n" + methods
            + "public static java.util.List<Object> answers() {\n"
            + "java.util.List<Object> answers = new java.util.ArrayList<>();\n" + body + "return answers;\n}\n}\n");
        String path = System.getProperty("java.class.path");
        int code = ToolProvider.getSystemJavaCompiler().run(null, null, null,
            "--release", "17", "-cp", path, "-d", dir.toString(), source.toString());
        Check.due("README's program compiles", code, 0);
        return code == 0;
    }

    private static List<?> run(Path dir) throws Exception {
        try (URLClassLoader loader = new URLClassLoader(new URL[] {dir.toUri().toURL()})) {
            return (List<?>) loader.loadClass(NAME).getMethod("answers").invoke(null);
        }
    }
}
