import java.lang.reflect.Constructor;
import java.lang.reflect.Field;
import java.lang.reflect.Method;
import java.lang.reflect.Modifier;
import java.util.HashSet;
import java.util.Set;

// The public face of the document, and the rules of the language that can be
// seen in the compiled class.
public final class FaceTest {
    private static final String[] FACE = {"void restart 0", "int actual 1", "int token 2", "int drop 0",
        "int say 0", "int learn 1", "int turn 1", "int worlds 0", "int facts 1", "int classes 1",
        "int together 3", "int holds 1", "int where 0", "int apart 2", "int kinds 0", "int needed 2"};

    private static int wrong = 0;

    private static void check(boolean right, String what) {
        if (!right) {
            wrong++;
            System.out.println(what);
        }
    }

    private static boolean isNumber(Class<?> type) {
        return type == int.class || type == long.class || type == short.class || type == byte.class
            || type == char.class || type == boolean.class;
    }

    private static boolean isNumberOrArray(Class<?> type) {
        return isNumber(type) || type.isArray() && isNumber(type.getComponentType());
    }

    private static void checkMethods() {
        Set<String> publicOnes = new HashSet<>();
        Set<String> publicNames = new HashSet<>();
        for (Method method : KnownWorlds.class.getDeclaredMethods()) {
            if (Modifier.isPublic(method.getModifiers())) {
                publicOnes.add(method.getReturnType() + " " + method.getName() + " " + method.getParameterCount());
                publicNames.add(method.getName());
                check(!Modifier.isStatic(method.getModifiers()), method + " is static");
            } else {
                check(Modifier.isPrivate(method.getModifiers()), method + " is neither public nor private");
                check(method.getParameterCount() <= 7, method + " takes more than seven parameters");
                check(method.getReturnType() == void.class || isNumber(method.getReturnType()), method + " answers no number");
            }
            for (Class<?> type : method.getParameterTypes()) {
                check(isNumberOrArray(type), method + " takes a " + type);
            }
        }
        check(publicOnes.equals(Set.of(FACE)), "the public methods are " + publicOnes);
        for (Method method : KnownWorlds.class.getDeclaredMethods()) {
            check(Modifier.isPublic(method.getModifiers()) || !publicNames.contains(method.getName()),
                method + " bears the name of a public method");
        }
    }

    private static void checkFields() {
        int beside = 0;
        for (Field field : KnownWorlds.class.getDeclaredFields()) {
            int modifiers = field.getModifiers();
            check(Modifier.isPrivate(modifiers), field + " is not private");
            check(isNumberOrArray(field.getType()), field + " has a type outside the rules");
            if (Modifier.isStatic(modifiers)) {
                boolean constant = Modifier.isFinal(modifiers)
                    && (field.getType() == int.class || field.getType() == long.class);
                check(constant, field + " is static and no constant");
            } else {
                beside++;
            }
        }
        check(beside <= 40, beside + " fields beside the constants");
    }

    public static void main(String[] args) {
        Class<?> type = KnownWorlds.class;
        check(Modifier.isPublic(type.getModifiers()) && Modifier.isFinal(type.getModifiers()), "the class is not public and final");
        check(type.getPackageName().isEmpty(), "the class has a package");
        check(type.getSuperclass() == Object.class && type.getInterfaces().length == 0, "the class has a parent");
        check(type.getDeclaredClasses().length == 0, "the class has nested classes");
        Constructor<?>[] constructors = type.getDeclaredConstructors();
        check(constructors.length == 1 && constructors[0].getParameterCount() == 0
            && Modifier.isPublic(constructors[0].getModifiers()), "not just the one public constructor");
        checkMethods();
        checkFields();
        System.out.println(wrong == 0 ? "the face is as due" : wrong + " things are not as due");
        if (wrong != 0) {
            System.exit(1);
        }
    }
}
