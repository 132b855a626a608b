import java.lang.reflect.Constructor;
import java.lang.reflect.Field;
import java.lang.reflect.Method;
import java.lang.reflect.Modifier;
import java.util.Set;
import java.util.TreeSet;

/**
 * The class has the document's public face and nothing else that can be seen from outside, and what
 * rules 1, 2 and 5 of LANGUAGE.md say of its members holds.
 */
public final class FaceTest {
    private static final Set<String> METHODS = Set.of(
        "place/3", "depth/3", "volume/0", "draw/1", "remove/1", "drawn/0", "owner/2", "owned/1",
        "covered/1", "covers/3", "lit/0", "firstIn/2", "lastIn/2", "nearer/3");

    public static void main(String[] args) {
        Check check = new Check();
        Class<?> face = ClipRaster.class;
        check.due("modifiers of the class", face.getModifiers(), Modifier.PUBLIC | Modifier.FINAL);
        check.due("nested classes", face.getDeclaredClasses().length, 0);
        check.due("extends Object alone", face.getSuperclass() == Object.class ? 1 : 0, 1);
        check.due("interfaces", face.getInterfaces().length, 0);
        check.due("constructors", face.getDeclaredConstructors().length, 1);
        for (Constructor<?> made : face.getDeclaredConstructors()) {
            check.due("modifiers of the constructor", made.getModifiers(), Modifier.PUBLIC);
            check.due("parameters of the constructor", made.getParameterCount(), 0);
        }
        for (Field field : face.getDeclaredFields()) {
            checkField(check, field);
        }
        checkMethods(check, face);
        checkPrivateNames(check, face);
        check.finish();
    }

    private static void checkField(Check check, Field field) {
        int modifiers = field.getModifiers();
        Class<?> type = field.getType();
        check.due(field + " is private", Modifier.isPrivate(modifiers) ? 1 : 0, 1);
        boolean constant = Modifier.isFinal(modifiers) && (type == int.class || type == long.class);
        check.due(field + ", if static, is a constant",
            !Modifier.isStatic(modifiers) || constant ? 1 : 0, 1);
        check.due(field + " is of whole numbers", isWhole(type) ? 1 : 0, 1);
    }

    private static boolean isWhole(Class<?> type) {
        Class<?> single = type.isArray() ? type.getComponentType() : type;
        return single.isPrimitive() && single != float.class && single != double.class;
    }

    private static void checkPrivateNames(Check check, Class<?> face) {
        Set<String> visible = new TreeSet<>();
        for (Method method : face.getMethods()) {
            visible.add(method.getName());
        }
        for (Method method : face.getDeclaredMethods()) {
            boolean shared = Modifier.isPrivate(method.getModifiers())
                && visible.contains(method.getName());
            check.due(method + " shares its name with a public one", shared ? 1 : 0, 0);
        }
    }

    private static void checkMethods(Check check, Class<?> face) {
        Set<String> seen = new TreeSet<>();
        for (Method method : face.getDeclaredMethods()) {
            if (Modifier.isPrivate(method.getModifiers())) {
                continue;
            }
            seen.add(method.getName() + "/" + method.getParameterCount());
            check.due("modifiers of " + method, method.getModifiers(), Modifier.PUBLIC);
            check.due(method + " answers an int", method.getReturnType() == int.class ? 1 : 0, 1);
            for (Class<?> type : method.getParameterTypes()) {
                check.due(method + " takes ints", type == int.class ? 1 : 0, 1);
            }
        }
        check.due("visible methods " + seen + " are the document's", seen.equals(METHODS) ? 1 : 0, 1);
    }
}
