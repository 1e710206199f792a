import java.lang.reflect.Constructor;
import java.lang.reflect.Field;
import java.lang.reflect.Method;
import java.lang.reflect.Modifier;
import java.util.Arrays;
import java.util.Set;
import java.util.TreeSet;

// The class has the public members of the document's face, and none but private ones beside them.
public final class FaceTests {
    private static final Set<String> FACE = new TreeSet<>(Arrays.asList(
        "BAD = -1", "NONE = -2", "BUSY = -3", "DOWN = -4", "DOUBT = -5", "DOOMED = -6", "FULL = -7",
        "VolumeCommit()",
        "int begin()", "int put(int, int, int)", "int remove(int, int)", "int get(int, int)",
        "int commit(int, int, int, int)", "int abort(int)", "int status(int)", "int written(int, int)",
        "int crash(int)", "int start(int)", "int crashLeader()", "int startLeader()", "int isUp(int)",
        "void idle(int, int)", "int look(int)", "int count(int)", "int next(int, int)", "int total(int)",
        "int doubtful(int)", "int faults()"));

    private static String parameters(Class<?>[] types) {
        String[] names = new String[types.length];
        for (int i = 0; i < types.length; i++) {
            names[i] = types[i].getName();
        }
        return "(" + String.join(", ", names) + ")";
    }

    private static Set<String> found() throws IllegalAccessException {
        Set<String> members = new TreeSet<>();
        for (Field field : VolumeCommit.class.getDeclaredFields()) {
            if (!Modifier.isPrivate(field.getModifiers())) {
                boolean constant = field.getModifiers() == (Modifier.PUBLIC | Modifier.STATIC | Modifier.FINAL);
                members.add(field.getName() + " = " + (constant ? field.getInt(null) : "no constant"));
            }
        }
        for (Constructor<?> made : VolumeCommit.class.getDeclaredConstructors()) {
            boolean plain = made.getModifiers() == Modifier.PUBLIC;
            members.add((plain ? "" : "not public: ") + "VolumeCommit" + parameters(made.getParameterTypes()));
        }
        for (Method method : VolumeCommit.class.getDeclaredMethods()) {
            if (!Modifier.isPrivate(method.getModifiers())) {
                boolean plain = method.getModifiers() == Modifier.PUBLIC;
                members.add((plain ? "" : "not plainly public: ") + method.getReturnType().getName() + " "
                    + method.getName() + parameters(method.getParameterTypes()));
            }
        }
        return members;
    }

    public static void main(String[] args) throws IllegalAccessException {
        Set<String> missing = new TreeSet<>(FACE);
        missing.removeAll(found());
        Set<String> beyond = found();
        beyond.removeAll(FACE);
        boolean publicFinal = VolumeCommit.class.getModifiers() == (Modifier.PUBLIC | Modifier.FINAL);
        if (!missing.isEmpty() || !beyond.isEmpty() || !publicFinal) {
            System.out.println("missing: " + missing + ", beyond the face: " + beyond + ", public final: " + publicFinal);
            System.exit(1);
        }
    }
}
