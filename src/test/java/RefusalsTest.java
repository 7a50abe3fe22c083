import java.util.ArrayList;
import java.util.List;

/** Terms, part 4, and that looks change nothing: behind each refused call, and behind each look, all that can be asked of
 *  an object is as in one that is alike but was not called so. */
public final class RefusalsTest {
    private static final int UNKNOWN = ErrataColumn.UNKNOWN, BAD = ErrataColumn.BAD, LATE = ErrataColumn.LATE;
    private static final int FULL = ErrataColumn.FULL, NONE = ErrataColumn.NONE;
    private static final int LEAST = Integer.MIN_VALUE, MOST = Integer.MAX_VALUE;
    private static final int[] INTS = {-1, 0, 1, 2, 3, 4, 5, 6, 10, 11, 31, 256, LEAST, MOST};
    private static final Check check = new Check("RefusalsTest");

    private interface Call {
        long on(ErrataColumn x);
    }

    private interface Maker {
        ErrataColumn make();
    }

    private record Told(String name, boolean isLook, Call call) { }

    public static void main(String[] args) {
        numbers();
        severalReasons();
        nothingChanges("new", ErrataColumn::new);
        nothingChanges("one letter", () -> busy("Ea/bC1R10R21", "Ea/"));
        nothingChanges("full paper", () -> busy("Eabcda/dcbabC1C2C3R10R20R21R32", "Eab/baC0"));
        nothingChanges("fourteen acts", RefusalsTest::fourteenActs);
        nothingChanges("full text", RefusalsTest::fullText);
        check.end();
    }

    private static void numbers() {
        check.sentence("REFUSALS: UNKNOWN -1, BAD -2, LATE -3, FULL -4 .. NONE is -9");
        check.due("UNKNOWN", UNKNOWN, -1);
        check.due("BAD", BAD, -2);
        check.due("LATE", LATE, -3);
        check.due("FULL", FULL, -4);
        check.due("NONE", NONE, -9);
    }

    private static void severalReasons() {
        check.sentence("Of several what is told first");
        ErrataColumn x = Check.column("Eab/baC0R10R10");
        check.due("reader: UNKNOWN, BAD", x.reader(2, 4), UNKNOWN);
        check.due("print: UNKNOWN, BAD", x.print(1, 2, 4), UNKNOWN);
        check.due("tell: UNKNOWN of reader, BAD", x.tell(2, 2), UNKNOWN);
        check.due("tell: UNKNOWN of other", x.tell(0, 2), UNKNOWN);
        check.due("tell: BAD, LATE", x.tell(1, 1), BAD);
        check.due("learn: UNKNOWN, BAD", x.learn(1, 4), UNKNOWN);
        check.due("codeName: BAD, LATE", x.codeName(6, -1), BAD);
        check.due("chance: UNKNOWN, BAD", x.chance(1, 5, 11, true), UNKNOWN);
        check.due("again: UNKNOWN, LATE", x.again(2), UNKNOWN);
        check.due("write: BAD, FULL", fullText().write(256), BAD);
    }

    // ---- objects with something to lose

    private static ErrataColumn busy(String paper, String textThen) {
        ErrataColumn x = Check.column(paper);
        x.print(0, 0, 2);
        x.keep(1);
        x.learn(0, 3);
        x.quiet();
        x.tell(1, 0);
        x.seed(12345);
        Check.rewrite(x, textThen);
        return x;
    }

    private static ErrataColumn fourteenActs() {
        ErrataColumn x = Check.column("Eabc/aabC0C3R10R43");
        x.keep(0);
        for (int i = 0; i < 16; i++) {
            x.print(i % 2, i % 3, i % 4);
        }
        x.keep(1);
        return x;
    }

    private static ErrataColumn fullText() {
        ErrataColumn x = Check.column("Eabc/aabC0C3R10R43");
        Check.rewrite(x, "Eab/ba" + "X".repeat(34));
        x.quiet();
        return x;
    }

    // ---- each call that is refused there, and each look

    private static void nothingChanges(String state, Maker maker) {
        check.sentence("In what follows nothing is changed .. What is refused changes nothing");
        List<String> due = Everything.of(maker.make());
        int refused = 0;
        for (Told told : calls()) {
            ErrataColumn x = maker.make();
            long answer = told.call.on(x);
            boolean isRefused = answer < 0 && answer != NONE;
            refused += isRefused ? 1 : 0;
            if (isRefused || told.isLook) {
                compare(state + ", " + told.name + " answered " + answer, Everything.of(x), due);
            }
        }
        check.holds(state + ": some hundred calls are refused, " + refused, refused > 100);
    }

    private static void compare(String behind, List<String> got, List<String> due) {
        check.due("answers behind " + behind, got.size(), due.size());
        for (int i = 0; i < due.size(); i++) {
            check.holds(behind + ": behind it " + got.get(i) + ", due is " + due.get(i), got.get(i).equals(due.get(i)));
        }
    }

    private static List<Told> calls() {
        List<Told> calls = new ArrayList<>();
        calls.add(new Told("fault()", true, x -> x.fault()));
        calls.add(new Told("paper()", false, x -> x.paper()));
        calls.add(new Told("undo()", false, x -> x.undo()));
        for (int a : INTS) {
            callsOfOne(calls, a);
            for (int b : INTS) {
                callsOfTwo(calls, a, b);
            }
        }
        return calls;
    }

    private static void callsOfOne(List<Told> calls, int a) {
        calls.add(new Told("write(" + a + ")", false, x -> x.write(a)));
        calls.add(new Told("about(" + a + ")", true, x -> x.about(a)));
        calls.add(new Told("kind(" + a + ")", true, x -> x.kind(a)));
        calls.add(new Told("righted(" + a + ")", true, x -> x.righted(a)));
        calls.add(new Told("allRighted(" + a + ")", true, x -> x.allRighted(a)));
        calls.add(new Told("code(" + a + ")", true, x -> x.code(a)));
        calls.add(new Told("share(" + a + ", true)", true, x -> x.share(a, true)));
        calls.add(new Told("years(" + a + ")", false, x -> x.years(a)));
        calls.add(new Told("keep(" + a + ")", false, x -> x.keep(a)));
        calls.add(new Told("again(" + a + ")", false, x -> x.again(a)));
    }

    private static void callsOfTwo(List<Told> calls, int a, int b) {
        String two = a + ", " + b;
        calls.add(new Told("reader(" + two + ")", true, x -> x.reader(a, b)));
        calls.add(new Told("tell(" + two + ")", false, x -> x.tell(a, b)));
        calls.add(new Told("learn(" + two + ")", false, x -> x.learn(a, b)));
        calls.add(new Told("print(0, " + two + ")", false, x -> x.print(0, a, b)));
        calls.add(new Told("print(" + two + ", 0)", false, x -> x.print(a, b, 0)));
        calls.add(new Told("codeName(" + two + ")", true, x -> x.codeName(a, b)));
        calls.add(new Told("after(0, " + two + ")", true, x -> x.after(0, a, b)));
        calls.add(new Told("after(" + two + ", 0)", true, x -> x.after(a, b, 0)));
        calls.add(new Told("ring(" + two + ", 0)", true, x -> x.ring(a, b, 0)));
        calls.add(new Told("ring(1, " + two + ")", true, x -> x.ring(1, a, b)));
        calls.add(new Told("first(" + two + ", 0)", true, x -> x.first(a, b, 0)));
        calls.add(new Told("first(1, " + two + ")", true, x -> x.first(1, a, b)));
        calls.add(new Told("who(" + two + ", 0, 0)", true, x -> x.who(a, b, 0, 0)));
        calls.add(new Told("who(0, 0, " + two + ")", true, x -> x.who(0, 0, a, b)));
        calls.add(new Told("rests(" + two + ", 0, 0, 0)", true, x -> x.rests(a, b, 0, 0, 0)));
        calls.add(new Told("rests(0, 0, " + two + ", 1)", true, x -> x.rests(0, 0, a, b, 1)));
        calls.add(new Told("rests(0, 0, 0, " + two + ")", true, x -> x.rests(0, 0, 0, a, b)));
        calls.add(new Told("chance(" + two + ", 0, true)", true, x -> x.chance(a, b, 0, true)));
        calls.add(new Told("chance(0, " + two + ", true)", true, x -> x.chance(0, a, b, true)));
    }
}
