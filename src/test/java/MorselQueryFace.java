import java.lang.reflect.Constructor;
import java.lang.reflect.Field;
import java.lang.reflect.Method;
import java.lang.reflect.Modifier;
import java.util.Set;
import java.util.TreeSet;

// The public face of the document, as the compiled class shows it.
public final class MorselQueryFace extends Checks {
    public static void main(String[] args) {
        about = "the public face";
        members();
        theClass();
        end();
    }

    private static void members() {
        Set<String> want = new TreeSet<>(Set.of(
            "public static final int MorselQuery.REFUSED",
            "public static final int MorselQuery.FULL",
            "public MorselQuery()",
            "public int MorselQuery.insert(int,int,int,int)",
            "public int MorselQuery.remove(int,int)",
            "public int MorselQuery.set(int,int,int)",
            "public int MorselQuery.cell(int,int)",
            "public int MorselQuery.rows(int)",
            "public boolean MorselQuery.put(int,int,int)",
            "public boolean MorselQuery.constant(int)",
            "public boolean MorselQuery.use(int)",
            "public int MorselQuery.run(int,int,int)",
            "public long MorselQuery.group(int,int)",
            "public int MorselQuery.passed()"));
        Set<String> got = new TreeSet<>();
        for (Field field : MorselQuery.class.getDeclaredFields()) {
            if (!Modifier.isPrivate(field.getModifiers())) {
                got.add(field.toString());
            }
        }
        for (Constructor<?> constructor : MorselQuery.class.getDeclaredConstructors()) {
            got.add(constructor.toString());
        }
        for (Method method : MorselQuery.class.getDeclaredMethods()) {
            if (!Modifier.isPrivate(method.getModifiers())) {
                got.add(method.toString());
            }
        }
        must("it is " + got + ", due is " + want, got.equals(want));
        due("REFUSED", MorselQuery.REFUSED, -1);
        due("FULL", MorselQuery.FULL, -2);
    }

    private static void theClass() {
        int modifiers = MorselQuery.class.getModifiers();
        must("the class is not public and final", Modifier.isPublic(modifiers) && Modifier.isFinal(modifiers));
        must("the class extends another one", MorselQuery.class.getSuperclass() == Object.class);
        must("the class implements something", MorselQuery.class.getInterfaces().length == 0);
        must("there is a nested class", MorselQuery.class.getDeclaredClasses().length == 0);
        must("there is a package", MorselQuery.class.getPackageName().isEmpty());
    }
}
