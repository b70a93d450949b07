import java.lang.reflect.Constructor;
import java.lang.reflect.Field;
import java.lang.reflect.Method;
import java.lang.reflect.Modifier;
import java.util.ArrayList;
import java.util.List;
import java.util.NoSuchElementException;

/** The public face of the document: each constant, constructor and method of it, and no other that can be seen. */
public final class Face {
    private static final Class<?> INT = int.class;
    private static final Class<?> NO_SUCH = NoSuchElementException.class;
    private static final Class<?> ILLEGAL = IllegalArgumentException.class;

    private static final List<String> due = new ArrayList<>();

    public static void main(String[] args) {
        method(INT, "feed", 5);
        method(INT, "city", 1, ILLEGAL);
        method(INT, "fault", 0);
        method(INT, "count", 1, NO_SUCH);
        method(INT, "box", 2, NO_SUCH);
        method(INT, "person", 2, NO_SUCH);
        method(INT, "held", 2, NO_SUCH);
        method(INT, "days", 1);
        method(INT, "write", 1, NO_SUCH);
        method(INT, "paint", 1, NO_SUCH);
        method(INT, "turn", 2, NO_SUCH);
        due.add("boolean strike(boolean)");
        method(INT, "undo", 0);
        method(INT, "then", 3, NO_SUCH, ILLEGAL);
        method(INT, "later", 3, NO_SUCH, ILLEGAL);
        method(INT, "first", 1, NO_SUCH);
        method(INT, "full", 2, NO_SUCH, ILLEGAL);
        method(INT, "most", 2, NO_SUCH, ILLEGAL);
        method(INT, "ring", 1, NO_SUCH);
        method(INT, "comesTo", 1, NO_SUCH);
        method(INT, "toCover", 1, ILLEGAL);
        method(INT, "oneMore", 1, NO_SUCH);
        method(INT, "order", 1, NO_SUCH);
        method(INT, "note", 3, NO_SUCH);
        method(void.class, "forget", 0);
        method(INT, "thought", 1, NO_SUCH);
        method(INT, "ask", 1, NO_SUCH);
        method(INT, "wetNights", 4, NO_SUCH, ILLEGAL);
        method(INT, "game", 3, NO_SUCH, ILLEGAL);
        method(INT, "years", 3, NO_SUCH, ILLEGAL);
        method(INT, "pale", 2, NO_SUCH, ILLEGAL);
        method(INT, "visits", 2, NO_SUCH, ILLEGAL);
        method(INT, "steps", 2, NO_SUCH);
        method(INT, "quiet", 2, NO_SUCH, ILLEGAL);
        method(INT, "middle", 0);
        method(INT, "bestAt", 2, NO_SUCH, ILLEGAL);
        method(INT, "reds", 1, ILLEGAL);
        method(INT, "whose", 1, NO_SUCH);
        method(void.class, "image", 0);
        method(boolean.class, "restore", 0);
        due.add("public static final int NONE");
        due.add("SlotMat()");
        due.add("public final SlotMat");
        int wrong = compare(visible());
        System.out.println(wrong == 0 ? "the face is the document's" : wrong + " members are not the document's");
        System.exit(wrong == 0 ? 0 : 1);
    }

    /** All parameters of the face but strike's are ints. */
    private static void method(Class<?> type, String name, int parameters, Class<?>... thrown) {
        List<String> ints = new ArrayList<>();
        for (int i = 0; i < parameters; i++) {
            ints.add("int");
        }
        due.add(type.getName() + " " + name + "(" + String.join(", ", ints) + ")" + names(thrown, " throws "));
    }

    private static String names(Class<?>[] classes, String ahead) {
        List<String> names = new ArrayList<>();
        for (Class<?> one : classes) {
            names.add(one.getName());
        }
        return names.isEmpty() ? "" : ahead + String.join(", ", names);
    }

    /** What another class could use; a member that is not private must be public. */
    private static List<String> visible() {
        List<String> all = new ArrayList<>();
        for (Method one : SlotMat.class.getDeclaredMethods()) {
            if (!Modifier.isPrivate(one.getModifiers()) && !one.isSynthetic()) {
                String rest = Modifier.toString(one.getModifiers()).replace("public", "").trim();
                all.add((Modifier.isPublic(one.getModifiers()) ? "" : "not public ")
                    + (rest.isEmpty() ? "" : rest + " ") + one.getReturnType().getName() + " " + one.getName()
                    + "(" + names(one.getParameterTypes(), "") + ")" + names(one.getExceptionTypes(), " throws "));
            }
        }
        for (Field one : SlotMat.class.getDeclaredFields()) {
            if (!Modifier.isPrivate(one.getModifiers())) {
                all.add(Modifier.toString(one.getModifiers()) + " " + one.getType().getName() + " " + one.getName());
            }
        }
        for (Constructor<?> one : SlotMat.class.getDeclaredConstructors()) {
            all.add((Modifier.isPublic(one.getModifiers()) ? "" : "not public ") + one.getName()
                + "(" + names(one.getParameterTypes(), "") + ")" + names(one.getExceptionTypes(), " throws "));
        }
        all.add(Modifier.toString(SlotMat.class.getModifiers()) + " " + SlotMat.class.getName());
        return all;
    }

    private static int compare(List<String> found) {
        int wrong = 0;
        for (String one : due) {
            if (!found.contains(one)) {
                System.out.println("missing: " + one);
                wrong++;
            }
        }
        for (String one : found) {
            if (!due.contains(one)) {
                System.out.println("not of the face: " + one);
                wrong++;
            }
        }
        return wrong;
    }
}
