import java.lang.reflect.Constructor;
import java.lang.reflect.Field;
import java.lang.reflect.Method;
import java.lang.reflect.Modifier;
import java.util.List;
import java.util.Set;
import java.util.TreeSet;

/** The class has the face that the document lists, and nothing more. */
final class FaceTest {
    private static final int CALLS = 34;

    public static void main(String[] args) throws Exception {
        Due due = new Due("FaceTest");
        members(due, DocumentFace.signatures());
        due.end();
    }

    private static void members(Due due, List<String> face) {
        due.is("calls that the document lists", face.size(), CALLS);
        Class<?> type = SolidsRolled.class;
        due.isTrue("public class", Modifier.isPublic(type.getModifiers()));
        due.isTrue("final class", Modifier.isFinal(type.getModifiers()));
        due.isTrue("of no other class", type.getSuperclass() == Object.class && type.getInterfaces().length == 0);
        Set<String> open = new TreeSet<>();
        Set<String> names = new TreeSet<>();
        for (Method method : type.getDeclaredMethods()) {
            if (!Modifier.isPrivate(method.getModifiers())) {
                due.isTrue("public, not static: " + method, method.getModifiers() == Modifier.PUBLIC);
                open.add(signature(method));
                names.add(method.getName());
            }
        }
        due.is("open methods", open.size(), face.size());
        for (String each : face) {
            due.isTrue(each, open.contains(each));
        }
        due.is("constructors", type.getDeclaredConstructors().length, 1);
        for (Constructor<?> each : type.getDeclaredConstructors()) {
            due.isTrue("public constructor without parameters",
                Modifier.isPublic(each.getModifiers()) && each.getParameterCount() == 0);
        }
        for (Field field : type.getDeclaredFields()) {
            due.isTrue("private field " + field.getName(), Modifier.isPrivate(field.getModifiers()));
        }
        fieldsAndNames(due, type, names);
        for (Class<?> inside : type.getDeclaredClasses()) {
            due.isTrue("static, not open: " + inside.getName(), Modifier.isStatic(inside.getModifiers())
                && !Modifier.isPublic(inside.getModifiers()) && !Modifier.isProtected(inside.getModifiers()));
            due.is("classes inside " + inside.getName(), inside.getDeclaredClasses().length, 0);
            fieldsAndNames(due, inside, names);
        }
        due.isTrue("at most twelve classes", type.getDeclaredClasses().length <= 11);
    }

    private static void fieldsAndNames(Due due, Class<?> type, Set<String> names) {
        int fields = 0;
        for (Field field : type.getDeclaredFields()) {
            boolean isStatic = Modifier.isStatic(field.getModifiers());
            due.isTrue("static is final: " + field, !isStatic || Modifier.isFinal(field.getModifiers()));
            fields += isStatic ? 0 : 1;
        }
        due.isTrue("at most twenty fields: " + type, fields <= 20);
        for (Method method : type.getDeclaredMethods()) {
            boolean face = type == SolidsRolled.class && Modifier.isPublic(method.getModifiers());
            due.isTrue("name of its own: " + method, face || !names.contains(method.getName()));
            due.isTrue("at most seven parameters: " + method, method.getParameterCount() <= 7);
        }
    }

    private static String signature(Method method) {
        StringBuilder text = new StringBuilder();
        text.append(method.getReturnType().getName()).append(' ').append(method.getName()).append('(');
        for (int i = 0; i < method.getParameterCount(); i++) {
            text.append(i == 0 ? "" : ",").append(method.getParameterTypes()[i].getName());
        }
        return text.append(')').toString();
    }
}
