import java.lang.reflect.Constructor;
import java.lang.reflect.Field;
import java.lang.reflect.Method;
import java.lang.reflect.Modifier;
import java.util.HashSet;
import java.util.Set;
import java.util.TreeSet;

/** The public face is the document's, and there is nothing besides it (rules 1 and 11 of LANGUAGE.md). */
public final class FaceTest {
    private static final String INDEX = "IndexOutOfBoundsException";
    private static final String ARGUMENT = "IllegalArgumentException";
    private static final String STATE = "IllegalStateException";

    private static final String[] FACE = {
        "int add() " + ARGUMENT,
        "int set(int int) " + INDEX + " " + ARGUMENT,
        "int bar(int int) " + INDEX + " " + ARGUMENT,
        "int put(int int int) " + INDEX + " " + ARGUMENT + " " + STATE,
        "int climb(int int) " + INDEX + " " + STATE,
        "int turn()",
        "int leave(int) " + INDEX + " " + STATE,
        "int append(int) " + ARGUMENT + " " + STATE,
        "int clearBuffer()",
        "int firstError(int) " + ARGUMENT,
        "int play() " + ARGUMENT,
        "int keep()",
        "int goBack() " + STATE,
        "int undo() " + STATE,
        "int word(int int) " + INDEX + " " + ARGUMENT,
        "int climber(int int) " + INDEX + " " + ARGUMENT,
        "int count(int) " + ARGUMENT,
        "int setting(int) " + INDEX,
        "int why(int int) " + INDEX,
        "int plain(int int) " + INDEX,
        "int ifPut(int int) " + INDEX + " " + ARGUMENT,
        "int safest()",
        "double linkShare()",
        "float meanLadder()",
        "long digest()",
    };

    private static String tell(Method m) {
        StringBuilder text = new StringBuilder(m.getReturnType().getSimpleName());
        text.append(' ').append(m.getName()).append('(');
        String gap = "";
        for (Class<?> type : m.getParameterTypes()) {
            text.append(gap).append(type.getSimpleName());
            gap = " ";
        }
        text.append(')');
        for (Class<?> type : m.getExceptionTypes()) {
            text.append(' ').append(type.getSimpleName());
        }
        return text.toString();
    }

    private static void methods() {
        Set<String> due = new TreeSet<>();
        Set<String> names = new HashSet<>();
        for (String line : FACE) {
            due.add(line);
            names.add(line.substring(line.indexOf(' ') + 1, line.indexOf('(')));
        }
        Set<String> got = new TreeSet<>();
        for (Method m : BarredRungs.class.getDeclaredMethods()) {
            if (Modifier.isPrivate(m.getModifiers())) {
                Check.isTrue("the private " + m.getName() + " has a public one's name", !names.contains(m.getName()));
            } else {
                Check.isTrue(m.getName() + " is not public", Modifier.isPublic(m.getModifiers()));
                got.add(tell(m));
            }
        }
        Check.sameText("the methods", got.toString(), due.toString());
    }

    private static void fieldsAndConstructors() {
        for (Field f : BarredRungs.class.getDeclaredFields()) {
            boolean isNone = f.getName().equals("NONE") && f.getType() == int.class
                    && f.getModifiers() == (Modifier.PUBLIC | Modifier.STATIC | Modifier.FINAL);
            Check.isTrue("the field " + f.getName(), isNone || Modifier.isPrivate(f.getModifiers()));
            Check.isTrue("a static that is not final: " + f.getName(),
                    !Modifier.isStatic(f.getModifiers()) || Modifier.isFinal(f.getModifiers()));
        }
        Constructor<?>[] all = BarredRungs.class.getDeclaredConstructors();
        Check.same("constructors", all.length, 1);
        Check.same("its parameters", all[0].getParameterCount(), 0);
        Check.isTrue("it is public", Modifier.isPublic(all[0].getModifiers()));
        Check.same("the class", BarredRungs.class.getModifiers(), Modifier.PUBLIC | Modifier.FINAL);
    }

    private static void classesInside() {
        Class<?>[] inside = BarredRungs.class.getDeclaredClasses();
        Check.isTrue("too many classes", inside.length < 12);
        for (Class<?> c : inside) {
            int flags = c.getModifiers();
            Check.isTrue(c.getName() + " is not static, or is seen outside",
                    Modifier.isStatic(flags) && !Modifier.isPublic(flags) && !Modifier.isProtected(flags));
            int fields = 0;
            for (Field f : c.getDeclaredFields()) {
                fields += Modifier.isStatic(f.getModifiers()) ? 0 : 1;
            }
            Check.isTrue(c.getName() + " has " + fields + " fields", fields <= 20);
            for (Method m : c.getDeclaredMethods()) {
                Check.isTrue(m.getName() + " takes too much", m.getParameterCount() <= 7);
            }
        }
    }

    public static void main(String[] args) {
        methods();
        fieldsAndConstructors();
        classesInside();
        Check.end("FaceTest");
    }
}
