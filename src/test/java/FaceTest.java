import java.lang.reflect.Constructor;
import java.lang.reflect.Field;
import java.lang.reflect.Method;
import java.lang.reflect.Modifier;
import java.util.ArrayList;
import java.util.Collections;
import java.util.List;

/** The public face is the document's, whole, and nothing beside it can be seen from outside. */
public final class FaceTest {
    private static final String[] METHODS = {
        "thing/5", "say/1", "wipe/0", "fault/0", "basket/1", "ways/1", "best/2", "stuck/3", "near/2", "endless/1",
        "pins/1", "weeks/2", "purse/2", "together/1", "pays/2", "wage/3", "priced/2", "penny/3", "seen/3",
        "forget/0", "fits/3", "row/1", "year/3", "image/1", "restore/1", "told/1"
    };
    private static final String[] CONSTANTS = {"UNKNOWN", "OUTSIDE", "STATE", "FULL", "NO", "NONE", "ENDLESS"};

    public static void main(String[] args) throws Exception {
        Due due = new Due();
        Class<?> face = EvenPurse.class;
        due.due("public final", face.getModifiers() & (Modifier.PUBLIC | Modifier.FINAL),
                Modifier.PUBLIC | Modifier.FINAL);
        Constructor<?>[] constructors = face.getDeclaredConstructors();
        due.due("constructors", constructors.length, 1);
        due.due("public constructor without parameters",
                Modifier.isPublic(constructors[0].getModifiers()) ? constructors[0].getParameterCount() : -1, 0);
        constants(due, face);
        methods(due, face);
        due.end();
    }

    private static void constants(Due due, Class<?> face) throws Exception {
        for (int i = 0; i < CONSTANTS.length; i++) {
            due.due(CONSTANTS[i], face.getField(CONSTANTS[i]).getInt(null), -1 - i);
        }
        for (Field field : face.getDeclaredFields()) {
            boolean known = List.of(CONSTANTS).contains(field.getName());
            due.due("hidden field " + field.getName(), Modifier.isPrivate(field.getModifiers()) ? 0 : 1, known ? 1 : 0);
            if (Modifier.isStatic(field.getModifiers())) {
                due.due("final field " + field.getName(), Modifier.isFinal(field.getModifiers()) ? 1 : 0, 1);
            }
        }
    }

    private static void methods(Due due, Class<?> face) {
        List<String> seen = new ArrayList<>();
        for (Method method : face.getDeclaredMethods()) {
            if (method.isSynthetic()) {
                continue;
            }
            String name = method.getName();
            boolean hidden = Modifier.isPrivate(method.getModifiers());
            if (!hidden) {
                seen.add(name + "/" + method.getParameterCount());
                due.due("answer of " + name, method.getReturnType() == int.class ? 1 : 0, 1);
                due.due("public method " + name, Modifier.isPublic(method.getModifiers()) ? 1 : 0, 1);
            }
            due.due("private method " + name + " bears a public name", hidden && isPublicName(name) ? 1 : 0, 0);
        }
        List<String> wanted = new ArrayList<>(List.of(METHODS));
        Collections.sort(wanted);
        Collections.sort(seen);
        due.due("methods " + seen, seen.equals(wanted) ? 1 : 0, 1);
    }

    private static boolean isPublicName(String name) {
        for (String method : METHODS) {
            if (method.startsWith(name + "/")) {
                return true;
            }
        }
        return false;
    }
}
