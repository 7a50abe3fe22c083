/** "An object is used for at most 512 calls after it has been made": up to the last of them each answers as due. */
public final class CallsTest {
    private static final Check check = new Check("CallsTest");

    public static void main(String[] args) {
        check.sentence("An object is used for at most 512 calls after it has been made");
        writes();
        quietDays();
        printedDays();
        undoes();
        actsAndUndoes();
        papers();
        keeps();
        years();
        dearCalls();
        manyObjects();
        check.end();
    }

    private static void writes() {
        ErrataColumn x = new ErrataColumn();
        for (int call = 1; call <= Check.MOST_CALLS; call++) {
            check.due("write, call " + call, x.write('E'), call <= 40 ? call : ErrataColumn.FULL);
        }
    }

    private static void quietDays() {
        ErrataColumn x = new ErrataColumn();
        for (int call = 1; call <= Check.MOST_CALLS; call++) {
            check.due("quiet, call " + call, x.quiet(), call);
        }
    }

    /** The text takes 13 calls with wipe, the paper one; then a notice and a look each day. */
    private static void printedDays() {
        ErrataColumn x = Check.column("Ea/aC0R43R32");
        int belief = 0;
        int other = 0;
        for (int day = 0; 14 + 2 * day + 2 <= Check.MOST_CALLS; day++) {
            int letter = day * 7 % 4;
            check.due("print, day " + day, x.print(0, 0, letter), letter);
            belief = day % 4 == 3 ? letter : belief;
            other = day % 3 == 2 ? letter : other;
            check.due("belief, day " + day, x.reader(day % 2, 2), day % 2 == 0 ? belief : other);
        }
    }

    private static void undoes() {
        ErrataColumn x = new ErrataColumn();
        for (int call = 1; call <= Check.MOST_CALLS; call++) {
            check.due("undo, call " + call, x.undo(), ErrataColumn.LATE);
        }
    }

    /** Two acts, one of them undone, over and over: the row fills, and what is forgotten moves on. */
    private static void actsAndUndoes() {
        ErrataColumn x = new ErrataColumn();
        int day = 0;
        for (int call = 3; call + 15 <= Check.MOST_CALLS; call += 3) {
            check.due("quiet", x.quiet(), day + 1);
            check.due("quiet", x.quiet(), day + 2);
            day++;
            check.due("undo", x.undo(), Math.min(day, 13));
        }
        for (int left = 12; left >= 0; left--) {
            check.due("undo at last", x.undo(), left);
        }
        check.due("no more", x.undo(), ErrataColumn.LATE);
        check.due("the day", x.about(6), day - 13);
    }

    private static void papers() {
        ErrataColumn x = Check.written("Eab/baC0R10");
        for (int call = 13; call <= Check.MOST_CALLS; call++) {
            check.due("paper, call " + call, x.paper(), 11);
        }
    }

    private static void keeps() {
        ErrataColumn x = new ErrataColumn();
        for (int call = 4; call <= Check.MOST_CALLS; call += 4) {
            int day = call / 4;
            check.due("quiet", x.quiet(), day);
            check.due("keep", x.keep(day % 2), day);
            check.due("again, the other one", x.again((day + 1) % 2), day == 1 ? ErrataColumn.LATE : day - 1);
            check.due("again", x.again(day % 2), day);
        }
    }

    private static void years() {
        ErrataColumn x = new ErrataColumn();
        for (int call = 1; call <= Check.MOST_CALLS; call++) {
            check.due("years(30), call " + call, x.years(30), 30);
        }
    }

    /** The dearest looks, at the greatest paper, answer in the last calls as in the first ones. */
    private static void dearCalls() {
        ErrataColumn x = Check.column("Eabcda/bcdabC1C2C3R10R20R31R43");
        for (int call = 38; call <= Check.MOST_CALLS; call += 6) {
            check.due("allRighted", x.allRighted(0), ErrataColumn.NONE);
            check.due("code", x.code(3), 64);
            check.due("codeName", x.codeName(1, 1023), 33333);
            check.due("first", x.first(3, 100110120L, 0), 0);
            check.due("righted", x.righted(1), ErrataColumn.NONE);
            check.due("about", x.about(4), 12301);
        }
    }

    /** Objects have nothing in common. */
    private static void manyObjects() {
        ErrataColumn[] all = new ErrataColumn[200];
        for (int i = 0; i < all.length; i++) {
            all[i] = Check.columnOf(1 + i % 5, "C0".repeat(i % 4));
            all[i].seed(i);
        }
        for (int i = 0; i < all.length; i++) {
            check.due("compositors of " + i, all[i].about(0), i % 4);
            check.due("L of " + i, all[i].about(2), 1 + i % 5);
            check.due("seed of " + i, all[i].seed(0), i);
        }
    }
}
