import java.lang.reflect.Method;
import java.nio.file.Files;
import java.nio.file.Path;
import java.util.ArrayList;
import java.util.List;
import java.util.regex.Matcher;
import java.util.regex.Pattern;

/** The calls that README.md shows, on one object in their order, each with the answer told behind it. */
public final class ReadmeTest {
    private static final Check check = new Check("ReadmeTest");
    private static final Pattern CALL = Pattern.compile("x\\.(\\w+)\\(([^)]*)\\);\\s*// (-?\\d+)(?:: .*)?");
    private static final String NEW = "AloneRooms x = new AloneRooms();";

    public static void main(String[] args) throws Exception {
        AloneRooms x = null;
        int calls = 0;
        for (String line : shownLines(Files.readAllLines(Path.of("README.md")))) {
            Matcher call = CALL.matcher(line);
            if (line.startsWith(NEW)) {
                x = new AloneRooms();
            } else if (call.matches() && x != null) {
                calls++;
                check.due(line, answer(x, call.group(1), call.group(2)), Long.parseLong(call.group(3)));
            } else {
                check.due("'" + line + "' is no call with an answer", 1, 0);
            }
        }
        check.due("README.md shows calls", calls > 0 ? 1 : 0, 1);
        check.end();
    }

    /** The lines of all parts that are Java. */
    private static List<String> shownLines(List<String> page) {
        List<String> shown = new ArrayList<>();
        boolean java = false;
        for (String line : page) {
            if (line.startsWith("```")) {
                java = line.equals("```java");
            } else if (java) {
                shown.add(line);
            }
        }
        return shown;
    }

    private static long answer(AloneRooms x, String name, String list) throws Exception {
        String[] given = list.isEmpty() ? new String[0] : list.split(", ");
        for (Method m : AloneRooms.class.getMethods()) {
            if (m.getName().equals(name) && m.getParameterCount() == given.length) {
                Object[] values = new Object[given.length];
                for (int i = 0; i < given.length; i++) {
                    values[i] = value(m.getParameterTypes()[i], given[i]);
                }
                return ((Number) m.invoke(x, values)).longValue();
            }
        }
        throw new IllegalStateException("no call " + name + " of " + given.length);
    }

    private static Object value(Class<?> type, String given) {
        if (type == boolean.class) {
            return Boolean.valueOf(given);
        }
        long number = Long.decode(given.replace("L", ""));
        return type == long.class ? (Object) number : (Object) (int) number;
    }
}
