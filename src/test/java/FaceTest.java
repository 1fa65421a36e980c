import java.lang.reflect.Constructor;
import java.lang.reflect.Field;
import java.lang.reflect.Method;
import java.lang.reflect.Modifier;
import java.util.Arrays;
import java.util.Set;
import java.util.TreeSet;

/** The class has the document's face and shows nothing else (rules 1 and 5 of LANGUAGE.md, too). */
final class FaceTest {
    private static final String REFUSES = " throws java.lang.IllegalArgumentException";

    private static final Set<String> METHODS = new TreeSet<>(Arrays.asList(
            "public long FloatUnit.put(int,long)" + REFUSES,
            "public long FloatUnit.bits(int)" + REFUSES,
            "public int FloatUnit.mode(int)" + REFUSES,
            "public int FloatUnit.flags(int)",
            "public long FloatUnit.work(int,boolean,int,int,int)" + REFUSES,
            "public int FloatUnit.compare(boolean,int,int,int)" + REFUSES,
            "public long FloatUnit.of(boolean,int,long)" + REFUSES,
            "public long FloatUnit.whole(boolean,int,boolean)" + REFUSES,
            "public long FloatUnit.turn(boolean,int,int)" + REFUSES,
            "public int FloatUnit.kind(boolean,int)" + REFUSES,
            "public long FloatUnit.negate(boolean,int,int)" + REFUSES));

    private static final Set<String> CONSTANTS = new TreeSet<>(Arrays.asList(
            "ADD 0", "SUBTRACT 1", "MULTIPLY 2", "DIVIDE 3", "REST 4"));

    public static void main(String[] args) throws IllegalAccessException {
        Checks checks = new Checks("FaceTest");
        int modifiers = FloatUnit.class.getModifiers();
        checks.holds("the class is public and final",
                Modifier.isPublic(modifiers) && Modifier.isFinal(modifiers));
        checks.holds("methods are " + methods(), methods().equals(METHODS));
        checks.holds("constants are " + constants(), constants().equals(CONSTANTS));
        Constructor<?>[] constructors = FloatUnit.class.getDeclaredConstructors();
        checks.holds("one public constructor without parameters", constructors.length == 1
                && Modifier.isPublic(constructors[0].getModifiers())
                && constructors[0].getParameterCount() == 0);
        checks.holds("a private method has the name of a public one", privateNames().stream()
                .noneMatch(name -> METHODS.stream().anyMatch(shown -> shown.contains("." + name + "("))));
        checks.holds("classes inside are static and not public", classesInsideAreHidden());
        checks.holds("static fields are final", staticFieldsAreFinal());
        checks.finish();
    }

    private static Set<String> methods() {
        Set<String> shown = new TreeSet<>();
        for (Method method : FloatUnit.class.getDeclaredMethods()) {
            if (!Modifier.isPrivate(method.getModifiers()) && !method.isSynthetic()) {
                shown.add(method.toString());
            }
        }
        return shown;
    }

    private static Set<String> privateNames() {
        Set<String> names = new TreeSet<>();
        for (Method method : FloatUnit.class.getDeclaredMethods()) {
            if (Modifier.isPrivate(method.getModifiers())) {
                names.add(method.getName());
            }
        }
        return names;
    }

    private static boolean classesInsideAreHidden() {
        for (Class<?> inside : FloatUnit.class.getDeclaredClasses()) {
            int modifiers = inside.getModifiers();
            if (!Modifier.isStatic(modifiers) || Modifier.isPublic(modifiers)
                    || Modifier.isProtected(modifiers)) {
                return false;
            }
        }
        return true;
    }

    private static boolean staticFieldsAreFinal() {
        for (Field field : FloatUnit.class.getDeclaredFields()) {
            if (Modifier.isStatic(field.getModifiers()) && !Modifier.isFinal(field.getModifiers())) {
                return false;
            }
        }
        return true;
    }

    private static Set<String> constants() throws IllegalAccessException {
        Set<String> shown = new TreeSet<>();
        for (Field field : FloatUnit.class.getDeclaredFields()) {
            if (!Modifier.isPrivate(field.getModifiers()) && !field.isSynthetic()) {
                boolean constant = field.toString().startsWith("public static final int ");
                shown.add(constant ? field.getName() + " " + field.getInt(null) : field.toString());
            }
        }
        return shown;
    }
}
