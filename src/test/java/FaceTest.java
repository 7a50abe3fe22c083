import java.io.IOException;
import java.lang.management.ManagementFactory;
import java.lang.reflect.Field;
import java.lang.reflect.Method;
import java.lang.reflect.Modifier;
import java.nio.file.Files;
import java.nio.file.Path;
import java.util.List;
import java.util.Set;
import java.util.TreeSet;
import java.util.regex.Matcher;
import java.util.regex.Pattern;

/** The face is the document's and no more; some of LANGUAGE.md that can be read off; calls make no objects. */
public final class FaceTest {
    private static final Check check = new Check("FaceTest");
    private static final List<String> FACE = List.of(
        "int write(int)", "int wipe()", "int fault()", "int paper()", "int about(int)", "int kind(int)", "int reader(int,int)",
        "int print(int,int,int)", "int quiet()", "int tell(int,int)", "int learn(int,int)", "int undo()",
        "int after(int,int,long)", "int righted(int)", "int allRighted(int)", "int ring(int,long,int)", "int first(int,long,int)",
        "int who(int,int,int,int)", "int code(int)", "int codeName(int,int)", "int rests(int,int,int,int,int)",
        "int chance(int,int,int,boolean)", "int share(int,boolean)", "long seed(long)", "int years(int)", "int keep(int)",
        "int again(int)");

    public static void main(String[] args) throws IOException {
        face();
        constants();
        classesInside();
        source();
        callsMakeNoObjects();
        check.end();
    }

    private static String told(Method m) {
        StringBuilder s = new StringBuilder(m.getReturnType().getName()).append(' ').append(m.getName()).append('(');
        for (Class<?> type : m.getParameterTypes()) {
            s.append(s.charAt(s.length() - 1) == '(' ? "" : ",").append(type.getName());
        }
        return s.append(')').toString();
    }

    private static void face() {
        Set<String> seen = new TreeSet<>();
        for (Method m : ErrataColumn.class.getDeclaredMethods()) {
            if (!Modifier.isPrivate(m.getModifiers())) {
                seen.add(told(m));
                check.holds("public, not static: " + m.getName(), m.getModifiers() == Modifier.PUBLIC);
            }
        }
        check.holds("the face is the document's: " + seen, seen.equals(new TreeSet<>(FACE)));
        check.due("constructors", ErrataColumn.class.getDeclaredConstructors().length, 1);
        check.holds("final", Modifier.isFinal(ErrataColumn.class.getModifiers()));
    }

    private static void constants() {
        check.due("UNKNOWN", ErrataColumn.UNKNOWN, -1);
        check.due("BAD", ErrataColumn.BAD, -2);
        check.due("LATE", ErrataColumn.LATE, -3);
        check.due("FULL", ErrataColumn.FULL, -4);
        check.due("NONE", ErrataColumn.NONE, -9);
        int open = 0;
        for (Field f : ErrataColumn.class.getDeclaredFields()) {
            open += Modifier.isPrivate(f.getModifiers()) ? 0 : 1;
        }
        check.due("public constants", open, 5);
    }

    private static void classesInside() {
        Set<String> publicNames = new TreeSet<>();
        for (Method m : ErrataColumn.class.getMethods()) {
            publicNames.add(m.getName());
        }
        int classes = 1;
        for (Class<?> c : ErrataColumn.class.getDeclaredClasses()) {
            classes++;
            check.holds("static: " + c, Modifier.isStatic(c.getModifiers()) && !Modifier.isPublic(c.getModifiers()));
            for (Method m : c.getDeclaredMethods()) {
                check.holds("a name of its own: " + m, !publicNames.contains(m.getName()));
                check.holds("at most seven parameters: " + m, m.getParameterCount() <= 7);
            }
        }
        check.holds("at most twelve classes", classes <= 12);
    }

    private static void source() throws IOException {
        String code = Files.readString(Path.of("src/main/java/ErrataColumn.java")).replaceAll("(?s)/\\*.*?\\*/|//[^\n]*", "");
        Matcher m = Pattern.compile("\\b(throws?|try|catch|synchronized|assert|import|package)\\b|Exact\\b|->|::").matcher(code);
        check.holds("no word that LANGUAGE.md rules out", !m.find());
        check.holds("no sign beyond 127", code.chars().allMatch(c -> c <= 127));
    }

    /** All calls of a run share one room, so nothing but a new object may take of it. */
    private static void callsMakeNoObjects() {
        ErrataColumn[] columns = new ErrataColumn[40];
        for (int i = 0; i < columns.length; i++) {
            columns[i] = Check.column("Eabcda/dcbabC1C2C3R10R20R31R43");
        }
        allCalls(columns, 0, 20);
        com.sun.management.ThreadMXBean bean = (com.sun.management.ThreadMXBean) ManagementFactory.getThreadMXBean();
        long before = bean.getCurrentThreadAllocatedBytes();
        allCalls(columns, 20, 40);
        long made = bean.getCurrentThreadAllocatedBytes() - before;
        check.holds("8100 calls made " + made + " bytes", made < 8100);
    }

    private static void allCalls(ErrataColumn[] columns, int from, int to) {
        for (int i = from; i < to; i++) {
            for (int round = 0; round < 15; round++) {
                allCalls(columns[i]);
            }
        }
    }

    private static void allCalls(ErrataColumn x) {
        x.wipe();
        x.write('E');
        x.fault();
        x.paper();
        x.about(7);
        x.kind(0);
        x.reader(0, 3);
        x.print(1, 1, 1);
        x.quiet();
        x.tell(0, 1);
        x.learn(0, 2);
        x.undo();
        x.after(123, 2, 110220L);
        x.righted(0);
        x.allRighted(1);
        x.ring(3, 110220121L, 1);
        x.first(3, 110220121L, 2);
        x.who(123, 321, 1, 1);
        x.code(2);
        x.codeName(3, 3);
        x.rests(0, 0, 1, 1, 0);
        x.chance(2, 4, 3, true);
        x.share(2, true);
        x.seed(4);
        x.years(30);
        x.keep(0);
        x.again(0);
    }
}
