import java.lang.reflect.Constructor;
import java.lang.reflect.Field;
import java.lang.reflect.Method;
import java.lang.reflect.Modifier;
import java.util.Set;
import java.util.TreeSet;

/** The class has the document's face, and no other member that can be seen from outside. */
public final class FaceTest {
    private static final String FACE = "boolean retreat();"
            + "boolean tape(int,int,int,int,int);"
            + "int bestAt(int)IllegalStateException,IllegalArgumentException;"
            + "int distanceToMate()IllegalStateException;"
            + "int historyOf(int,int)IndexOutOfBoundsException;"
            + "int legalMany();"
            + "int legalMove(int)IndexOutOfBoundsException;"
            + "int manOn(int);"
            + "int matingMove()IllegalStateException;"
            + "int proceed(int)IllegalStateException,IndexOutOfBoundsException;"
            + "int status(int);"
            + "int submit(int)IllegalArgumentException;"
            + "int valueAt(int)IllegalStateException,IllegalArgumentException;"
            + "long linesTo(int)IllegalStateException,IllegalArgumentException;"
            + "long recordAt(int);"
            + "long spelling(int)IndexOutOfBoundsException;";

    public static void main(String[] args) throws Exception {
        Class<?> hall = GameHall.class;
        Set<String> names = new TreeSet<>();
        Set<String> open = new TreeSet<>();
        for (Method method : hall.getDeclaredMethods()) {
            if (Modifier.isPublic(method.getModifiers())) {
                names.add(method.getName());
                open.add(signature(method));
            } else {
                Check.due(method + " is private", Modifier.isPrivate(method.getModifiers()), true);
            }
        }
        Check.due("face", String.join("", open), FACE);
        for (Method method : hall.getDeclaredMethods()) {
            boolean shadows = Modifier.isPrivate(method.getModifiers()) && names.contains(method.getName());
            Check.due(method + " has a name of its own", shadows, false);
        }
        Check.due("final", Modifier.isFinal(hall.getModifiers()), true);
        Constructor<?>[] constructors = hall.getDeclaredConstructors();
        Check.due("constructors", constructors.length, 1);
        Check.due("of slots", constructors[0].toString(), "public GameHall(int)");
        for (Field field : hall.getDeclaredFields()) {
            boolean none = field.getName().equals("NONE");
            Check.due(field + " is public", Modifier.isPublic(field.getModifiers()), none);
            Check.due(field + " is private", Modifier.isPrivate(field.getModifiers()), !none);
        }
        inside(hall);
        Check.end("FaceTest");
    }

    private static String signature(Method method) {
        StringBuilder text = new StringBuilder(method.getReturnType() + " " + method.getName() + "(");
        for (Class<?> type : method.getParameterTypes()) {
            text.append(text.charAt(text.length() - 1) == '(' ? "" : ",").append(type);
        }
        text.append(")");
        for (Class<?> type : method.getExceptionTypes()) {
            text.append(text.charAt(text.length() - 1) == ')' ? "" : ",").append(type.getSimpleName());
        }
        return text + ";";
    }

    /** The rules for the classes inside, and for what is static in them. */
    private static void inside(Class<?> hall) {
        Class<?>[] classes = hall.getDeclaredClasses();
        Check.due("not more than twelve classes", classes.length + 1 <= 12, true);
        for (Class<?> inner : classes) {
            Check.due(inner + " is private", Modifier.isPrivate(inner.getModifiers()), true);
            Check.due(inner + " is static", Modifier.isStatic(inner.getModifiers()), true);
            int fields = 0;
            for (Field field : inner.getDeclaredFields()) {
                boolean constant = Modifier.isStatic(field.getModifiers());
                fields += constant ? 0 : 1;
                boolean fixed = Modifier.isFinal(field.getModifiers());
                Check.due(field + ": what is static is final", !constant || fixed, true);
            }
            Check.due(inner + " has not more than twenty fields", fields <= 20, true);
            for (Method method : inner.getDeclaredMethods()) {
                Check.due(method + " takes at most seven", method.getParameterCount() <= 7, true);
            }
        }
    }
}
