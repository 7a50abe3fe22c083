import java.io.IOException;
import java.lang.reflect.Method;
import java.lang.reflect.Modifier;
import java.nio.file.Files;
import java.nio.file.Path;
import java.util.Set;
import java.util.TreeSet;
import java.util.regex.Matcher;
import java.util.regex.Pattern;

/** README.md tells no answer that the class does not give, and leaves no call of the face out. */
public final class ReadmeTest {
    private static final Check check = new Check("ReadmeTest");
    private static final Pattern PAPER = Pattern.compile("\"(E[^\"]+)\"\\.toCharArray");
    private static final Pattern ANSWERED = Pattern.compile("(?m)^column\\.(\\w+)\\(([^)]*)\\); +// (-?\\d+)");
    private static final Pattern LISTED = Pattern.compile("(?m)^\\| `(\\w+)\\(([^)]*)\\)` \\|");

    public static void main(String[] args) throws IOException, ReflectiveOperationException {
        String readme = Files.readString(Path.of("README.md"));
        answers(readme);
        table(readme);
        check.end();
    }

    private static void answers(String readme) throws ReflectiveOperationException {
        Matcher paper = PAPER.matcher(readme);
        check.holds("a paper is told", paper.find());
        ErrataColumn x = Check.written(paper.group(1));
        Matcher line = ANSWERED.matcher(readme);
        int lines = 0;
        while (line.find()) {
            lines++;
            String call = line.group(1) + "(" + line.group(2) + ")";
            check.due(call, answer(x, line.group(1), figures(line.group(2))), Long.parseLong(line.group(3)));
        }
        check.holds("calls are told with answers", lines > 10);
    }

    private static String[] figures(String told) {
        return told.isEmpty() ? new String[0] : told.split(", *");
    }

    private static Method call(String name) throws NoSuchMethodException {
        for (Method m : ErrataColumn.class.getDeclaredMethods()) {
            if (m.getName().equals(name) && Modifier.isPublic(m.getModifiers())) {
                return m;
            }
        }
        throw new NoSuchMethodException(name);
    }

    private static long answer(ErrataColumn x, String name, String[] told) throws ReflectiveOperationException {
        Method m = call(name);
        Class<?>[] types = m.getParameterTypes();
        Object[] values = new Object[told.length];
        for (int i = 0; i < told.length; i++) {
            values[i] = value(types[i], told[i]);
        }
        return ((Number) m.invoke(x, values)).longValue();
    }

    private static Object value(Class<?> type, String told) {
        if (type == boolean.class) {
            return Boolean.parseBoolean(told);
        }
        if (type == long.class) {
            return Long.parseLong(told);
        }
        return Integer.parseInt(told);
    }

    private static void table(String readme) {
        Set<String> listed = new TreeSet<>();
        Matcher row = LISTED.matcher(readme);
        while (row.find()) {
            listed.add(row.group(1) + " " + figures(row.group(2)).length);
        }
        Set<String> face = new TreeSet<>();
        for (Method m : ErrataColumn.class.getDeclaredMethods()) {
            if (Modifier.isPublic(m.getModifiers())) {
                face.add(m.getName() + " " + m.getParameterCount());
            }
        }
        check.holds("the table has the calls of the face: " + listed, listed.equals(face));
    }
}
