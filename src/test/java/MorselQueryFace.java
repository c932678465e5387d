import java.io.IOException;
import java.lang.reflect.Constructor;
import java.lang.reflect.Field;
import java.lang.reflect.Method;
import java.lang.reflect.Modifier;
import java.nio.file.Files;
import java.nio.file.Path;
import java.util.Set;
import java.util.TreeSet;
import java.util.regex.Matcher;
import java.util.regex.Pattern;

// The public face of the document, and those rules of LANGUAGE.md that can be seen in the compiled class or in single words.
public final class MorselQueryFace {
    private static final Path SOURCE = Path.of("src/main/java/MorselQuery.java");
    private static int wrong = 0;

    private static void must(boolean holds, String what) {
        if (!holds) {
            wrong++;
            System.out.println(what);
        }
    }

    public static void main(String[] args) throws IOException {
        face();
        members();
        words();
        System.out.println(wrong == 0 ? "the face and the rules are kept" : wrong + " faults");
        if (wrong != 0) {
            System.exit(1);
        }
    }

    private static void face() {
        Set<String> want = new TreeSet<>(Set.of(
            "public static final int MorselQuery.REFUSED",
            "public static final int MorselQuery.FULL",
            "public MorselQuery()",
            "public int MorselQuery.insert(int,int,int,int)",
            "public int MorselQuery.remove(int,int)",
            "public int MorselQuery.set(int,int,int)",
            "public int MorselQuery.cell(int,int)",
            "public int MorselQuery.rows(int)",
            "public boolean MorselQuery.put(int,int,int)",
            "public boolean MorselQuery.constant(int)",
            "public boolean MorselQuery.use(int)",
            "public int MorselQuery.run(int,int,int)",
            "public long MorselQuery.group(int,int)",
            "public int MorselQuery.passed()"));
        Set<String> got = new TreeSet<>();
        for (Field field : MorselQuery.class.getDeclaredFields()) {
            if (!Modifier.isPrivate(field.getModifiers())) {
                got.add(field.toString());
            }
        }
        for (Constructor<?> constructor : MorselQuery.class.getDeclaredConstructors()) {
            got.add(constructor.toString());
        }
        for (Method method : MorselQuery.class.getDeclaredMethods()) {
            if (!Modifier.isPrivate(method.getModifiers())) {
                got.add(method.toString());
            }
        }
        must(got.equals(want), "the face is " + got + ", due is " + want);
        must(MorselQuery.REFUSED == -1 && MorselQuery.FULL == -2, "REFUSED is -1 and FULL is -2");
        int modifiers = MorselQuery.class.getModifiers();
        must(Modifier.isPublic(modifiers) && Modifier.isFinal(modifiers), "the class is public and final");
        must(MorselQuery.class.getSuperclass() == Object.class, "the class extends nothing");
        must(MorselQuery.class.getInterfaces().length == 0, "the class implements nothing");
        must(MorselQuery.class.getDeclaredClasses().length == 0, "no nested class");
        must(MorselQuery.class.getPackageName().isEmpty(), "no package");
    }

    private static void members() {
        int fields = 0;
        for (Field field : MorselQuery.class.getDeclaredFields()) {
            boolean isStatic = Modifier.isStatic(field.getModifiers());
            must(isPlain(field.getType(), !isStatic), "rule 2 or 5: " + field);
            if (isStatic) {
                must(Modifier.isFinal(field.getModifiers()), "rule 5: " + field);
                must(field.getType() == int.class || field.getType() == long.class, "rule 5: " + field);
            } else {
                fields++;
            }
        }
        must(fields <= 40, "rule 10: " + fields + " fields");
        Set<String> names = new TreeSet<>();
        for (Method method : MorselQuery.class.getDeclaredMethods()) {
            must(names.add(method.getName()), "rule 1: two methods with the name " + method.getName());
            must(method.getParameterCount() <= 7, "rule 10: " + method);
            must(method.getReturnType() == void.class || isPlain(method.getReturnType(), false), "rule 4: " + method);
            for (Class<?> type : method.getParameterTypes()) {
                must(isPlain(type, true), "rule 2: " + method);
            }
        }
    }

    private static boolean isPlain(Class<?> type, boolean orArray) {
        if (orArray && type.isArray()) {
            return isPlain(type.getComponentType(), false);
        }
        return type.isPrimitive() && type != float.class && type != double.class && type != void.class;
    }

    private static void words() throws IOException {
        String source = Files.readString(SOURCE).replaceAll("//[^\n]*", "");
        String banned = "\\b(import|package|throw|throws|try|catch|finally|synchronized|assert|instanceof|null|float|double|String"
            + "|Math|Integer|Long|System|Arrays|Object|class\\s+\\w+\\s*extends|enum|record|interface|var)\\b|->|::|\"|'";
        Matcher word = Pattern.compile(banned).matcher(source);
        while (word.find()) {
            must(false, "not in the language: " + word.group());
        }
        Matcher made = Pattern.compile("[^\n]*\\bnew\\b[^\n]*").matcher(source);
        while (made.find()) {
            boolean inField = made.group().matches("    private final \\w+\\[\\] \\w+ = new \\w+\\[[A-Z_0-9]+\\];");
            must(inField, "rule 4: " + made.group().trim());
        }
    }
}
