import java.lang.reflect.Constructor;
import java.lang.reflect.Field;
import java.lang.reflect.Method;
import java.lang.reflect.Modifier;
import java.util.Arrays;
import java.util.Set;
import java.util.TreeSet;

/** The public face just as the document has it, and what of LANGUAGE.md shows in the compiled class. */
public final class FaceTest {
    private static final Set<String> FACE = new TreeSet<>(Arrays.asList(
            "int add(int, int)", "boolean remove(int)", "boolean setLimit(int, int)", "int move(int, int)",
            "int reserve(int, int)", "int use(int, int)", "int giveBack(int)", "int release(int, int)",
            "int free(int)", "int recover()", "int total(int)", "int room(int)", "int blocker(int, int)",
            "int over()", "int below(int)"));
    private static final Set<Class<?>> NUMBERS =
            Set.of(int.class, long.class, short.class, byte.class, char.class, boolean.class);

    private static final Check check = new Check();

    public static void main(String[] args) {
        theClass();
        theConstants();
        theMethods();
        theFields();
        check.end();
    }

    private static void theClass() {
        check.part("the class");
        int modifiers = QuotaTree.class.getModifiers();
        check.due("public", Modifier.isPublic(modifiers), true);
        check.due("final", Modifier.isFinal(modifiers), true);
        check.due("no package", QuotaTree.class.getPackageName().isEmpty(), true);
        check.due("nested classes", QuotaTree.class.getDeclaredClasses().length, 0);
        Constructor<?>[] constructors = QuotaTree.class.getDeclaredConstructors();
        check.due("constructors", constructors.length, 1);
        check.due("constructor is public", Modifier.isPublic(constructors[0].getModifiers()), true);
        check.due("constructor's parameters", constructors[0].getParameterCount(), 0);
    }

    private static void theConstants() {
        check.part("the constants");
        check.due("BAD", QuotaTree.BAD, -1);
        check.due("FULL", QuotaTree.FULL, -2);
        check.due("REFUSED", QuotaTree.REFUSED, -3);
    }

    private static void theMethods() {
        check.part("the methods");
        Set<String> face = new TreeSet<>();
        Set<String> publicNames = new TreeSet<>();
        for (Method method : QuotaTree.class.getDeclaredMethods()) {
            if (Modifier.isPublic(method.getModifiers())) {
                face.add(told(method));
                publicNames.add(method.getName());
                check.due(method.getName() + " is static", Modifier.isStatic(method.getModifiers()), false);
            }
        }
        check.due("the face is the document's: " + face, face.equals(FACE), true);
        for (Method method : QuotaTree.class.getDeclaredMethods()) {
            check.due(method.getName() + " has few parameters", method.getParameterCount() <= 7, true);
            if (!Modifier.isPublic(method.getModifiers())) {
                check.due(method + " is private", Modifier.isPrivate(method.getModifiers()), true);
                check.due(method + " has a name of its own", publicNames.contains(method.getName()), false);
            }
        }
    }

    private static String told(Method method) {
        StringBuilder text = new StringBuilder(method.getReturnType() + " " + method.getName() + "(");
        String gap = "";
        for (Class<?> type : method.getParameterTypes()) {
            text.append(gap).append(type);
            gap = ", ";
        }
        return text.append(")").toString();
    }

    private static void theFields() {
        check.part("the fields");
        Set<String> open = new TreeSet<>();
        for (Field field : QuotaTree.class.getDeclaredFields()) {
            int modifiers = field.getModifiers();
            Class<?> type = field.getType().isArray() ? field.getType().getComponentType() : field.getType();
            check.due(field + " has a type of the language", NUMBERS.contains(type), true);
            if (!Modifier.isPrivate(modifiers)) {
                open.add(field.toString());
            }
            if (Modifier.isStatic(modifiers)) {
                boolean constant = Modifier.isFinal(modifiers)
                        && (field.getType() == int.class || field.getType() == long.class);
                check.due(field + " is a constant", constant, true);
            }
        }
        Set<String> due = new TreeSet<>(Arrays.asList(
                "public static final int QuotaTree.BAD",
                "public static final int QuotaTree.FULL",
                "public static final int QuotaTree.REFUSED"));
        check.due("the open fields are the document's: " + open, open.equals(due), true);
    }
}
