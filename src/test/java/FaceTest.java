import java.lang.reflect.Constructor;
import java.lang.reflect.Field;
import java.lang.reflect.Member;
import java.lang.reflect.Method;
import java.lang.reflect.Modifier;
import java.util.Set;
import java.util.TreeSet;

/** The public face is the document's, with what it throws, and all else is private (LANGUAGE.md, rules 1, 5 and 11). */
public final class FaceTest {
    private static final String ILLEGAL = " throws IllegalArgumentException";
    private static final String NO_SUCH = " throws NoSuchElementException";
    private static final String BOTH = " throws NoSuchElementException, IllegalArgumentException";
    private static final String[] FACE = {
        "int attach(int, int, int, int, boolean)" + ILLEGAL, "int detach(int)" + NO_SUCH, "int heat(int, int)" + BOTH,
        "boolean press(int, int, boolean)" + BOTH, "int device(int, int)" + NO_SUCH, "int pulse(int, int)" + BOTH,
        "int stored(int, int)" + BOTH, "int speed(int)", "int time(int, int, int)", "int slot(int, int, int)",
        "int trace(int, int)", "boolean reset()", "int write(int, int)", "int read(int)", "int idle(int)",
        "boolean strong(boolean)", "int pass(boolean)", "int anew()", "boolean target(int)", "int leave()",
        "int found(int)", "long forks()", "int last()", "int roll(boolean)", "int known(int, int)", "int missing()",
        "int measure(int, int)", "int measureAll(int)", "int measured(int)", "int look(int)", "int store(int, int, int)",
        "boolean raise()", "int lasts(int)" + NO_SUCH, "int branch(int)", "int parts(int, int)",
        "int limit(int, int, boolean)", "int blame(int, int)" + NO_SUCH, "int checksum(long, int)", "int count(int)"
    };

    public static void main(String[] args) {
        Check.due("public and final", Modifier.PUBLIC | Modifier.FINAL, LoneWire.class.getModifiers());
        Check.due("NONE", -1, LoneWire.NONE);
        Set<String> due = new TreeSet<>(Set.of(FACE));
        Set<String> publicNames = new TreeSet<>();
        for (Method method : LoneWire.class.getDeclaredMethods()) {
            if (Modifier.isPublic(method.getModifiers())) {
                publicNames.add(method.getName());
                Check.due(text(method) + " is of the face", true, due.remove(text(method)));
            } else {
                duePrivate(method);
            }
        }
        Check.due("all of the face: " + due + " are not there", 0, due.size());
        for (Field field : LoneWire.class.getDeclaredFields()) {
            if (field.getName().equals("NONE")) {
                Check.due("NONE is public, static, final and an int", true,
                    field.getModifiers() == (Modifier.PUBLIC | Modifier.STATIC | Modifier.FINAL) && field.getType() == int.class);
            } else {
                duePrivate(field);
            }
        }
        Constructor<?>[] constructors = LoneWire.class.getDeclaredConstructors();
        Check.due("one constructor", 1, constructors.length);
        Check.due("public", true, Modifier.isPublic(constructors[0].getModifiers()));
        dueInside(publicNames);
        Check.end();
    }

    private static void dueInside(Set<String> publicNames) {
        Class<?>[] inside = LoneWire.class.getDeclaredClasses();
        Check.due("at most some twelve classes", true, inside.length < 12);
        for (Class<?> c : inside) {
            Check.due(c + " is static", true, Modifier.isStatic(c.getModifiers()));
            int fields = 0;
            for (Field field : c.getDeclaredFields()) {
                boolean isStatic = Modifier.isStatic(field.getModifiers());
                Check.due(field + " is final if static", true, !isStatic || Modifier.isFinal(field.getModifiers()));
                fields += isStatic ? 0 : 1;
            }
            Check.due(c + " has at most twenty fields", true, fields <= 20);
            for (Method method : c.getDeclaredMethods()) {
                Check.due(method + " has a name of its own", false, publicNames.contains(method.getName()));
                Check.due(method + " has at most seven parameters", true, method.getParameterCount() <= 7);
            }
        }
    }

    private static void duePrivate(Member member) {
        Check.due(member + " is private", true, Modifier.isPrivate(member.getModifiers()));
    }

    private static String text(Method method) {
        StringBuilder text = new StringBuilder(method.getReturnType().getName());
        text.append(' ').append(method.getName()).append('(');
        for (int i = 0; i < method.getParameterCount(); i++) {
            text.append(i == 0 ? "" : ", ").append(method.getParameterTypes()[i].getName());
        }
        text.append(')');
        Class<?>[] thrown = method.getExceptionTypes();
        for (int i = 0; i < thrown.length; i++) {
            text.append(i == 0 ? " throws " : ", ").append(thrown[i].getSimpleName());
        }
        return text.toString();
    }
}
