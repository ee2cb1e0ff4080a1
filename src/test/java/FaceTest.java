import java.lang.reflect.Constructor;
import java.lang.reflect.Field;
import java.lang.reflect.Method;
import java.lang.reflect.Modifier;
import java.nio.file.Files;
import java.nio.file.Path;
import java.util.Set;
import java.util.TreeSet;
import java.util.regex.Matcher;
import java.util.regex.Pattern;

/** The class has the document's face and nothing more, and keeps to what can be read off its text of LANGUAGE.md. */
final class FaceTest {
    private static final String[] FACE = {
        "int letter(int)", "int board()", "int tile(int,int)", "int of(int,int)", "int places(int,int)",
        "int ink(int)", "int wipes()", "int solid(int)", "int roll(int)", "int ways()", "int walks()",
        "int judge()", "int undo()", "int reached(int)", "int soonest(int,int)", "int walk(int,int,int)",
        "int faces(int)", "int fill(int)", "long needed(int)", "int paint(int,int)", "long likely(int,int,int)",
        "int lots(int,int,int)", "int list(int,int)", "int put(int,int,int)", "long look(int,int)",
        "int lays(int,int)", "int tells(int)", "int rack(int,int,int)", "int racks(int,int,int)",
        "int racked(int,int,int)", "int like(int,int)", "int image()", "int on()", "int count(int)"};
    private static final String[] BANNED = {
        "\\bthrow\\b", "\\bthrows\\b", "\\btry\\b", "\\bcatch\\b", "\\bsynchronized\\b", "\\bassert\\b", "->", "::",
        "\\bpackage\\b", "\\bThread\\b", "\\bRandom\\b", "\\bSystem\\.(?!arraycopy)", "\\bequals\\b", "\\bhashCode\\b",
        "\\btoString\\b", "Exact\\b", "\\bObject\\b", "_VALUE\\b"};

    public static void main(String[] args) throws Exception {
        Due due = new Due("FaceTest");
        members(due);
        text(due);
        due.end();
    }

    private static void members(Due due) {
        Class<?> type = SolidsRolled.class;
        due.isTrue("public class", Modifier.isPublic(type.getModifiers()));
        due.isTrue("final class", Modifier.isFinal(type.getModifiers()));
        Set<String> open = new TreeSet<>();
        Set<String> names = new TreeSet<>();
        for (Method method : type.getDeclaredMethods()) {
            if (!Modifier.isPrivate(method.getModifiers())) {
                open.add(signature(method));
                names.add(method.getName());
            }
        }
        due.is("open methods", open.size(), FACE.length);
        for (String each : FACE) {
            due.isTrue(each, open.contains(each));
        }
        due.is("constructors", type.getDeclaredConstructors().length, 1);
        for (Constructor<?> each : type.getDeclaredConstructors()) {
            due.isTrue("public constructor without parameters",
                Modifier.isPublic(each.getModifiers()) && each.getParameterCount() == 0);
        }
        for (Field field : type.getDeclaredFields()) {
            due.isTrue("private field " + field.getName(), Modifier.isPrivate(field.getModifiers()));
        }
        fieldsAndNames(due, type, names);
        for (Class<?> inside : type.getDeclaredClasses()) {
            due.isTrue("static, not open: " + inside.getName(), Modifier.isStatic(inside.getModifiers())
                && !Modifier.isPublic(inside.getModifiers()) && !Modifier.isProtected(inside.getModifiers()));
            fieldsAndNames(due, inside, names);
        }
        due.isTrue("at most twelve classes", type.getDeclaredClasses().length <= 11);
    }

    private static void fieldsAndNames(Due due, Class<?> type, Set<String> names) {
        int fields = 0;
        for (Field field : type.getDeclaredFields()) {
            boolean isStatic = Modifier.isStatic(field.getModifiers());
            due.isTrue("static is final: " + field, !isStatic || Modifier.isFinal(field.getModifiers()));
            fields += isStatic ? 0 : 1;
        }
        due.isTrue("at most twenty fields: " + type, fields <= 20);
        for (Method method : type.getDeclaredMethods()) {
            boolean face = type == SolidsRolled.class && Modifier.isPublic(method.getModifiers());
            due.isTrue("name of its own: " + method, face || !names.contains(method.getName()));
            due.isTrue("at most seven parameters: " + method, method.getParameterCount() <= 7);
        }
    }

    private static String signature(Method method) {
        StringBuilder text = new StringBuilder();
        text.append(method.getReturnType().getName()).append(' ').append(method.getName()).append('(');
        for (int i = 0; i < method.getParameterCount(); i++) {
            text.append(i == 0 ? "" : ",").append(method.getParameterTypes()[i].getName());
        }
        return text.append(')').toString();
    }

    private static void text(Due due) throws Exception {
        String whole = Files.readString(Path.of("src/main/java/SolidsRolled.java"));
        String code = whole.replaceAll("(?s)/\\*.*?\\*/", " ").replaceAll("//[^\\n]*", " ");
        for (String each : BANNED) {
            due.isTrue("no " + each, !Pattern.compile(each).matcher(code).find());
        }
        Matcher imports = Pattern.compile("import ([^;]+);").matcher(code);
        while (imports.find()) {
            due.isTrue("import " + imports.group(1), imports.group(1).equals("java.util.Arrays"));
        }
        due.isTrue("signs 1 to 127", whole.chars().allMatch(c -> c > 0 && c < 128));
    }
}
