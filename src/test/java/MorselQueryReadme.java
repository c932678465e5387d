import java.io.IOException;
import java.lang.reflect.InvocationTargetException;
import java.lang.reflect.Method;
import java.lang.reflect.Modifier;
import java.nio.file.DirectoryStream;
import java.nio.file.Files;
import java.nio.file.Path;
import java.util.HashMap;
import java.util.Map;
import java.util.regex.Matcher;
import java.util.regex.Pattern;

// README.md: its example answers what it says, and it names each call and each test.
public final class MorselQueryReadme extends Checks {
    private static final Pattern EXAMPLE = Pattern.compile("```java\n(.*?)```", Pattern.DOTALL);
    private static final Pattern CALL = Pattern.compile("x\\.(\\w+)\\(([^)]*)\\);");
    // What a comment says behind its last colon, where that is a single answer.
    private static final Pattern ANSWER = Pattern.compile("//.*: (-?\\d+|true|false)$");
    private static final int FEWEST_ANSWERS = 10;

    public static void main(String[] args) throws IOException, ReflectiveOperationException {
        about = "README.md";
        String readme = Files.readString(Path.of("README.md"));
        Map<String, Method> calls = publicMethods();
        example(readme, calls);
        for (String name : calls.keySet()) {
            must("it does not tell of " + name, readme.contains("| `" + name + "("));
        }
        tests(readme);
        end();
    }

    private static Map<String, Method> publicMethods() {
        Map<String, Method> calls = new HashMap<>();
        for (Method method : MorselQuery.class.getDeclaredMethods()) {
            if (Modifier.isPublic(method.getModifiers())) {
                calls.put(method.getName(), method);
            }
        }
        return calls;
    }

    private static void example(String readme, Map<String, Method> calls) throws ReflectiveOperationException {
        Matcher block = EXAMPLE.matcher(readme);
        boolean hasExample = block.find();
        must("it has no example", hasExample);
        if (!hasExample) {
            return;
        }
        MorselQuery x = new MorselQuery();
        int answers = 0;
        for (String line : block.group(1).split("\n")) {
            Matcher call = CALL.matcher(line);
            if (!call.find()) {
                continue;
            }
            String got = answer(x, calls.get(call.group(1)), call.group(2));
            Matcher said = ANSWER.matcher(line);
            if (said.find()) {
                answers++;
                must(call.group() + " answered " + got + ", it says " + said.group(1), got.equals(said.group(1)));
            }
        }
        must("only " + answers + " answers were found in its example", answers >= FEWEST_ANSWERS);
    }

    private static String answer(MorselQuery x, Method method, String list) throws IllegalAccessException, InvocationTargetException {
        if (list.isEmpty()) {
            return String.valueOf(method.invoke(x));
        }
        String[] words = list.split(", ");
        Object[] arguments = new Object[words.length];
        for (int i = 0; i < words.length; i++) {
            arguments[i] = words[i].equals("NULL") ? NULL : Integer.parseInt(words[i]);
        }
        return String.valueOf(method.invoke(x, arguments));
    }

    private static void tests(String readme) throws IOException {
        try (DirectoryStream<Path> files = Files.newDirectoryStream(Path.of("src/test/java"), "*.java")) {
            for (Path file : files) {
                String name = file.getFileName().toString().replace(".java", "");
                must("it does not tell of " + name, readme.contains("- `" + name + "`: "));
            }
        }
    }
}
