import java.lang.reflect.Field;
import java.lang.reflect.Method;
import java.lang.reflect.Modifier;
import java.util.Set;
import java.util.TreeSet;

/** The class shows the document's face and nothing else, and its fields keep to LANGUAGE.md. */
public final class FaceTest {
    private static final Set<String> METHODS = Set.of(
            "int draft(int)", "void scrap()", "int put(int)", "int delete(int)", "int size(int)",
            "int read(int,int)", "int damage(int,int,int)", "int damaged(int)", "int scrub()",
            "int healed()", "int lose(int)", "int copy(int,int)", "int digest(int)");
    private static final Set<String> CONSTANTS = Set.of("BAD_ARG", "FULL", "ABSENT", "DAMAGED");

    public static void main(String[] args) {
        Class<?> face = SelfHealStripes.class;
        isTrue("the class is public", Modifier.isPublic(face.getModifiers()));
        isTrue("the class is final", Modifier.isFinal(face.getModifiers()));
        isTrue("the class has no package", face.getPackageName().isEmpty());
        isTrue("the class extends Object alone",
                face.getSuperclass() == Object.class && face.getInterfaces().length == 0);
        isTrue("no nested class", face.getDeclaredClasses().length == 0);
        isTrue("one constructor, public, without parameters",
                face.getDeclaredConstructors().length == 1 && face.getConstructors().length == 1
                        && face.getConstructors()[0].getParameterCount() == 0);
        methods(face);
        fields(face);
        Check.finish();
    }

    private static void methods(Class<?> face) {
        Set<String> shown = new TreeSet<>();
        Set<String> shownNames = new TreeSet<>();
        for (Method method : face.getDeclaredMethods()) {
            if (!Modifier.isPrivate(method.getModifiers())) {
                shown.add(signature(method));
                shownNames.add(method.getName());
                isTrue(method + " is public and not static", Modifier.isPublic(method.getModifiers())
                        && !Modifier.isStatic(method.getModifiers()));
            }
        }
        isTrue("the methods are the document's: " + shown, shown.equals(METHODS));
        for (Method method : face.getDeclaredMethods()) {
            isTrue(method + " does not bear a public name", Modifier.isPublic(method.getModifiers())
                    || !shownNames.contains(method.getName()));
            isTrue(method + " takes at most seven parameters", method.getParameterCount() <= 7);
        }
    }

    private static String signature(Method method) {
        StringBuilder parameters = new StringBuilder();
        for (Class<?> type : method.getParameterTypes()) {
            parameters.append(parameters.length() == 0 ? "" : ",").append(type.getName());
        }
        return method.getReturnType().getName() + " " + method.getName() + "(" + parameters + ")";
    }

    private static void fields(Class<?> face) {
        Set<String> shown = new TreeSet<>();
        for (Field field : face.getDeclaredFields()) {
            int modifiers = field.getModifiers();
            if (!Modifier.isPrivate(modifiers)) {
                shown.add(field.getName());
                isTrue(field + " is a public constant int", Modifier.isPublic(modifiers)
                        && Modifier.isStatic(modifiers) && field.getType() == int.class);
            }
            if (Modifier.isStatic(modifiers)) {
                isTrue(field + " is a final int or long", Modifier.isFinal(modifiers)
                        && (field.getType() == int.class || field.getType() == long.class));
            }
            Class<?> element = field.getType().isArray() ? field.getType().getComponentType() : field.getType();
            isTrue(field + " is of whole numbers", element.isPrimitive()
                    && element != float.class && element != double.class);
        }
        isTrue("the constants are the document's: " + shown, shown.equals(CONSTANTS));
    }

    private static void isTrue(String what, boolean holds) {
        Check.due(what, holds ? 1 : 0, 1);
    }
}
