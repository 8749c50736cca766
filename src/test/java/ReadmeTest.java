import java.io.IOException;
import java.lang.reflect.InvocationTargetException;
import java.lang.reflect.Method;
import java.lang.reflect.Modifier;
import java.nio.file.Files;
import java.nio.file.Path;
import java.util.ArrayList;
import java.util.List;
import java.util.TreeSet;
import java.util.regex.Matcher;
import java.util.regex.Pattern;
import java.util.stream.Stream;

/** README.md tells what is so: its example, the calls with what they throw, and the tests. */
public final class ReadmeTest {
    private static final Pattern TYPED = Pattern.compile("for \\(char c : \"(.*)\"\\.toCharArray\\(\\)\\) x\\.append\\(c\\);");
    private static final Pattern ASKED = Pattern.compile("x\\.(\\w+)\\((.*)\\); *// (\\S+): .*");
    private static final Pattern ROW = Pattern.compile("\\| `(\\w+)\\((.*)\\)` \\|( undo \\|| \\||) .* \\| (.*) \\|");

    private static Method callOf(String name) {
        for (Method m : BarredRungs.class.getMethods()) {
            if (m.getName().equals(name) && m.getDeclaringClass() == BarredRungs.class) {
                return m;
            }
        }
        throw new AssertionError("no call is named " + name);
    }

    private static String ask(BarredRungs x, Method call, Object[] numbers) {
        try {
            return String.valueOf(call.invoke(x, numbers));
        } catch (InvocationTargetException e) {
            return e.getCause().getClass().getSimpleName();
        } catch (IllegalAccessException e) {
            return "no access";
        }
    }

    private static void exampleAnswersSo(List<String> lines) {
        BarredRungs x = new BarredRungs();
        int asked = 0;
        for (String line : lines) {
            Matcher typed = TYPED.matcher(line);
            if (typed.matches()) {
                Check.type(x, typed.group(1));
            }
            Matcher m = ASKED.matcher(line);
            if (m.matches()) {
                String[] told = m.group(2).isEmpty() ? new String[0] : m.group(2).split(", ");
                Object[] numbers = Stream.of(told).map(Integer::valueOf).toArray();
                Check.sameText("the example's " + line, ask(x, callOf(m.group(1)), numbers), m.group(3));
                asked++;
            }
        }
        Check.isTrue("the example asks little", asked >= 8);
    }

    /** What a row tells of the throws clause: "INDEX: ..; STATE: .." as the names of exceptions. */
    private static String toldToThrow(String cell) {
        StringBuilder names = new StringBuilder();
        Matcher m = Pattern.compile("(INDEX|ARGUMENT|STATE): ").matcher(cell);
        while (m.find()) {
            names.append(m.group(1).equals("INDEX") ? "IndexOutOfBoundsException "
                    : m.group(1).equals("STATE") ? "IllegalStateException " : "IllegalArgumentException ");
        }
        return cell.equals("nothing") || names.length() > 0 ? names.toString() : "a cell that tells nothing";
    }

    /** Every call has one row, with as many arguments and the exceptions of its throws clause in their order. */
    private static void rowsTellTheCalls(List<String> lines) {
        List<String> told = new ArrayList<>();
        for (String line : lines) {
            Matcher m = ROW.matcher(line);
            if (m.matches()) {
                Method call = callOf(m.group(1));
                StringBuilder due = new StringBuilder();
                for (Class<?> type : call.getExceptionTypes()) {
                    due.append(type.getSimpleName()).append(' ');
                }
                int arguments = m.group(2).isEmpty() ? 0 : m.group(2).split(", ").length;
                Check.sameText("the row of " + call.getName(), toldToThrow(m.group(4)), due.toString());
                Check.same("the arguments of " + call.getName(), arguments, call.getParameterCount());
                Check.isTrue("\"undo\" of " + call.getName(), m.group(3).contains("undo") == isUndoable(call.getName()));
                told.add(call.getName());
            }
        }
        List<String> face = new ArrayList<>();
        for (Method m : BarredRungs.class.getDeclaredMethods()) {
            if (Modifier.isPublic(m.getModifiers())) {
                face.add(m.getName());
            }
        }
        told.sort(null);
        face.sort(null);
        Check.sameText("the calls with a row", told.toString(), face.toString());
    }

    /** Whether the document marks the call so; HistoryEdgesTest shows that it holds. */
    private static boolean isUndoable(String name) {
        return List.of("add", "set", "bar", "put", "climb", "turn", "leave", "play", "goBack").contains(name);
    }

    private static void testsAreNamed(String text) throws IOException {
        TreeSet<String> named = new TreeSet<>();
        Matcher m = Pattern.compile("\\b[A-Z]\\w+Test\\b").matcher(text);
        while (m.find()) {
            named.add(m.group());
        }
        TreeSet<String> there = new TreeSet<>();
        try (Stream<Path> files = Files.list(Path.of("src/test/java"))) {
            files.map(f -> f.getFileName().toString()).filter(n -> n.endsWith("Test.java"))
                    .forEach(n -> there.add(n.substring(0, n.length() - ".java".length())));
        }
        Check.sameText("the tests that README.md names", named.toString(), there.toString());
    }

    public static void main(String[] args) throws IOException {
        Path file = Path.of("README.md");
        exampleAnswersSo(Files.readAllLines(file));
        rowsTellTheCalls(Files.readAllLines(file));
        testsAreNamed(Files.readString(file));
        Check.end("ReadmeTest");
    }
}
