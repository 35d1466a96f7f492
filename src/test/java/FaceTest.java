import java.lang.reflect.Constructor;
import java.lang.reflect.Field;
import java.lang.reflect.Member;
import java.lang.reflect.Method;
import java.lang.reflect.Modifier;
import java.util.ArrayList;
import java.util.List;
import java.util.TreeSet;

/** The public face, and nothing beside it. */
public final class FaceTest {
    private static final String[] FACE = {
        "append(int,int,int,int,int)int", "load(int)int", "errorOffset()int", "count(int)int",
        "directories(int)int", "outer(int,int)int", "told(int,int)int", "mountAt(int)int",
        "mountOn(int,int)int", "look(int,int)int", "seen(int)int", "isSeen(int,int)boolean",
        "followers(int)int", "wouldMake(int,int)int", "path(int)int", "pathByte(int)int",
        "mount(int,int,int)int", "bind(int,int,int,int)int", "move(int,int,int)int",
        "unmount(int)int", "make(int,int)int", "copySpace(int,boolean)int", "dropSpace()int",
        "undo()int", "checksum()long"};

    private FaceTest() {
    }

    public static void main(String[] args) {
        Check.same("SYNTAX_ERROR", MountSpaces.SYNTAX_ERROR, -12);
        Check.same("UNKNOWN", MountSpaces.UNKNOWN, -13);
        Check.same("DUPLICATE", MountSpaces.DUPLICATE, -14);
        Check.same("TOO_MANY", MountSpaces.TOO_MANY, -15);
        Check.same("IMPOSSIBLE", MountSpaces.IMPOSSIBLE, -16);
        Class<?> face = MountSpaces.class;
        Check.same("final", Modifier.isFinal(face.getModifiers()), true);
        methods(face);
        fields(face);
        for (Constructor<?> constructor : face.getDeclaredConstructors()) {
            Check.same("public constructor", Modifier.isPublic(constructor.getModifiers()), true);
            Check.same("its parameters", constructor.getParameterCount(), 0);
        }
        for (Class<?> inside : face.getDeclaredClasses()) {
            Check.same(inside.getName() + " static", Modifier.isStatic(inside.getModifiers()),
                true);
            Check.same(inside.getName() + " hidden", inside.getModifiers()
                & (Modifier.PUBLIC | Modifier.PROTECTED), 0);
        }
        Check.end("FaceTest");
    }

    private static void methods(Class<?> face) {
        TreeSet<String> due = new TreeSet<>(List.of(FACE));
        TreeSet<String> got = new TreeSet<>();
        TreeSet<String> names = new TreeSet<>();
        for (Method method : face.getDeclaredMethods()) {
            if (Modifier.isPublic(method.getModifiers())) {
                got.add(signature(method));
                names.add(method.getName());
            }
        }
        Check.same("public methods", got.toString(), due.toString());
        for (Method method : face.getDeclaredMethods()) {
            if (!Modifier.isPublic(method.getModifiers()) && !method.isSynthetic()) {
                Check.same(method.getName() + " private", isPrivate(method), true);
                Check.same(method.getName() + " is also public",
                    names.contains(method.getName()), false);
            }
        }
    }

    private static void fields(Class<?> face) {
        List<String> got = new ArrayList<>();
        for (Field field : face.getDeclaredFields()) {
            if (Modifier.isPublic(field.getModifiers())) {
                got.add(field.getName());
            } else {
                Check.same(field.getName() + " private", isPrivate(field), true);
            }
            if (Modifier.isStatic(field.getModifiers())) {
                Check.same(field.getName() + " final", Modifier.isFinal(field.getModifiers()),
                    true);
            }
        }
        Check.same("public fields", got.toString(),
            "[SYNTAX_ERROR, UNKNOWN, DUPLICATE, TOO_MANY, IMPOSSIBLE]");
    }

    private static boolean isPrivate(Member member) {
        return Modifier.isPrivate(member.getModifiers());
    }

    private static String signature(Method method) {
        StringBuilder text = new StringBuilder(method.getName()).append('(');
        Class<?>[] types = method.getParameterTypes();
        for (int i = 0; i < types.length; i++) {
            text.append(i == 0 ? "" : ",").append(types[i].getName());
        }
        return text.append(')').append(method.getReturnType().getName()).toString();
    }
}
