import java.lang.reflect.Field;
import java.lang.reflect.Method;
import java.lang.reflect.Modifier;
import java.nio.file.Files;
import java.nio.file.Path;
import java.util.ArrayList;
import java.util.List;
import java.util.Set;
import java.util.TreeSet;
import java.util.regex.Matcher;
import java.util.regex.Pattern;

/** The rules of LANGUAGE.md that a look at the source and the class can see. */
public final class LanguageTest {
    private static final Path SOURCE = Path.of("src/main/java/LanternPeople.java");
    private static final Path DOCUMENT = Path.of("../shared/DOC.md");

    private LanguageTest() { }

    public static void main(String[] args) throws Exception {
        String source = Files.readString(SOURCE);
        String code = withoutTextsAndComments(source);
        face();
        members();
        words(code);
        methodLengths(code);
        Check.end();
    }

    private static void wrong(String what) {
        Check.due(what, 1, 0);
    }

    private static String withoutTextsAndComments(String source) {
        return Pattern.compile("\"(\\\\.|[^\"])*\"|'(\\\\.|[^'])'|//[^\n]*|/\\*.*?\\*/", Pattern.DOTALL)
            .matcher(source).replaceAll(m -> m.group().startsWith("/") ? "\n".repeat((int) m.group().chars()
                .filter(c -> c == '\n').count()) : "0");
    }

    /** The public members are those of the document, no more and no fewer. */
    private static void face() throws Exception {
        Set<String> due = new TreeSet<>();
        Matcher m = Pattern.compile("    public (int|boolean) (\\w+)\\(([^)]*)\\);").matcher(Files.readString(DOCUMENT));
        while (m.find()) {
            due.add(m.group(1) + " " + m.group(2) + "(" + m.group(3).replaceAll(" \\w+(, |$)", "$1") + ")");
        }
        Set<String> got = new TreeSet<>();
        for (Method method : LanternPeople.class.getDeclaredMethods()) {
            if (!Modifier.isPrivate(method.getModifiers())) {
                List<String> types = new ArrayList<>();
                for (Class<?> type : method.getParameterTypes()) {
                    types.add(type.getName());
                }
                got.add(method.getReturnType() + " " + method.getName() + "(" + String.join(", ", types) + ")");
            }
        }
        if (!got.equals(due) || due.size() != 42) {
            wrong("the face is " + got + ", due is " + due);
        }
        Check.due("constructors", LanternPeople.class.getDeclaredConstructors().length, 1);
        Check.due("final", Modifier.isFinal(LanternPeople.class.getModifiers()), true);
        for (Field field : LanternPeople.class.getDeclaredFields()) {
            if (!Modifier.isPrivate(field.getModifiers()) && !field.getName().equals("NONE")) {
                wrong("field " + field);
            }
        }
    }

    private static void members() {
        Set<String> names = new TreeSet<>();
        for (Method method : LanternPeople.class.getDeclaredMethods()) {
            if (Modifier.isPublic(method.getModifiers())) {
                names.add(method.getName());
            }
        }
        List<Class<?>> classes = new ArrayList<>(List.of(LanternPeople.class.getDeclaredClasses()));
        Check.due("at most twelve classes", classes.size() < 12, true);
        for (Class<?> inside : classes) {
            Check.due(inside + " is static", Modifier.isStatic(inside.getModifiers()), true);
            for (Method method : inside.getDeclaredMethods()) {
                if (names.contains(method.getName())) {
                    wrong(method + " bears the name of a public one");
                }
            }
        }
        classes.add(LanternPeople.class);
        for (Class<?> one : classes) {
            int fields = 0;
            for (Field field : one.getDeclaredFields()) {
                boolean constant = Modifier.isStatic(field.getModifiers());
                fields += constant ? 0 : 1;
                if (constant && !Modifier.isFinal(field.getModifiers())) {
                    wrong(field + " is not final");
                }
            }
            Check.due("at most twenty fields of " + one, fields <= 20, true);
            for (Method method : one.getDeclaredMethods()) {
                Check.due("at most seven parameters of " + method, method.getParameterCount() <= 7, true);
                if (!Modifier.isPublic(method.getModifiers()) && one == LanternPeople.class && names.contains(method.getName())) {
                    wrong(method + " bears the name of a public one");
                }
            }
        }
    }

    private static void words(String code) {
        Matcher m = Pattern.compile("\\b(package|throws?|try|catch|synchronized|assert|Exact|System\\.(?!arraycopy)\\w+"
            + "|Thread|Random|Object|hashCode|toString|volatile|native|protected|var)\\b|->|::").matcher(code);
        while (m.find()) {
            wrong("the source has " + m.group());
        }
        m = Pattern.compile("import ([^;]+);").matcher(code);
        while (m.find()) {
            if (!Set.of("java.util.Arrays", "java.util.ArrayList", "java.util.List").contains(m.group(1))) {
                wrong("import of " + m.group(1));
            }
        }
    }

    private static void methodLengths(String code) {
        String[] lines = code.split("\n", -1);
        Pattern head = Pattern.compile("^( +)(?!.*\\b(class|interface|record|enum)\\b)[\\w\\[\\] ]+\\([^;]*\\) \\{$");
        for (int i = 0; i < lines.length; i++) {
            Matcher m = head.matcher(lines[i]);
            if (m.matches() && !lines[i].trim().matches("(if|for|while|switch|} else).*")) {
                int end = i;
                while (!lines[end].equals(m.group(1) + "}")) {
                    end++;
                }
                Check.due("at most sixty lines of " + lines[i].trim(), end - i <= 60, true);
            }
        }
    }
}
