import java.lang.reflect.Constructor;
import java.lang.reflect.Field;
import java.lang.reflect.Method;
import java.lang.reflect.Modifier;
import java.util.Set;
import java.util.TreeSet;

/** The public face: all that the document has, and no other member that can be seen from outside. */
public final class FaceTest {
    private static final String[] FACE = {
        "int NONE",
        "DoorGuard()",
        "int days(int)",
        "int feed(int,int,int,int,int)",
        "boolean end(int)",
        "int keep(int)",
        "boolean mark(int)",
        "boolean near(int,int,int)",
        "boolean count(int,int)",
        "boolean pieces(int,int,int,int,int)",
        "boolean allow(int,int,int,boolean)",
        "int rule(int,int,int,int,int)",
        "boolean drop(int)",
        "int send(int,int,int)",
        "boolean answer(int,boolean)",
        "int told(int,int)",
        "int at(int,int,boolean)",
        "int found(int,int,int)",
        "int words()",
        "int numbers()",
        "int parts(int,int)",
        "int trial(int,int,int,int,int)",
        "int tried(int,int,int,int,int,int)",
        "int quarrel(int,int)",
        "int state(int)",
    };

    public static void main(String[] args) {
        Due due = new Due();
        int modifiers = DoorGuard.class.getModifiers();
        due.is("public", Modifier.isPublic(modifiers), true);
        due.is("final", Modifier.isFinal(modifiers), true);
        due.same("face", seen().toString(), new TreeSet<>(Set.of(FACE)).toString());
        due.same("names of both a public and a private method", namesOfBoth().toString(), "[]");
        for (Class<?> inside : DoorGuard.class.getDeclaredClasses()) {
            due.is(inside + " is static", Modifier.isStatic(inside.getModifiers()), true);
            due.is(inside + " is public", Modifier.isPublic(inside.getModifiers()), false);
        }
        due.finish();
    }

    private static Set<String> seen() {
        Set<String> all = new TreeSet<>();
        for (Field field : DoorGuard.class.getDeclaredFields()) {
            if (!Modifier.isPrivate(field.getModifiers())) {
                all.add(field.getType() + " " + field.getName());
            }
        }
        for (Constructor<?> constructor : DoorGuard.class.getDeclaredConstructors()) {
            all.add("DoorGuard" + types(constructor.getParameterTypes()));
        }
        for (Method method : DoorGuard.class.getDeclaredMethods()) {
            if (!Modifier.isPrivate(method.getModifiers())) {
                all.add(method.getReturnType() + " " + method.getName() + types(method.getParameterTypes()));
            }
        }
        return all;
    }

    private static String types(Class<?>[] types) {
        StringBuilder all = new StringBuilder("(");
        for (Class<?> type : types) {
            all.append(all.length() == 1 ? "" : ",").append(type.getName());
        }
        return all.append(")").toString();
    }

    private static Set<String> namesOfBoth() {
        Set<String> open = new TreeSet<>();
        Set<String> closed = new TreeSet<>();
        for (Method method : DoorGuard.class.getDeclaredMethods()) {
            (Modifier.isPublic(method.getModifiers()) ? open : closed).add(method.getName());
        }
        for (Class<?> inside : DoorGuard.class.getDeclaredClasses()) {
            for (Method method : inside.getDeclaredMethods()) {
                closed.add(method.getName());
            }
        }
        open.retainAll(closed);
        return open;
    }
}
