/** The edges of rows, what rights, rings, what was first, who and codes: Terms, part 2, and promises 14 to 21. */
public final class NamesEdgesTest {
    private static final int BAD = ErrataColumn.BAD, LATE = ErrataColumn.LATE, NONE = ErrataColumn.NONE;
    private static final int LEAST = Integer.MIN_VALUE, MOST = Integer.MAX_VALUE;
    private static final int[] TENS = {1, 10, 100, 1000, 10000, 100000};
    private static final Check check = new Check("NamesEdgesTest");

    /** A call that is told a row. */
    private interface OfRow {
        int answer(ErrataColumn x, int n, long row);
    }

    public static void main(String[] args) {
        namesThatAreTold();
        allNamesThatAreTold();
        figuresOfRows();
        rowsOfNobody();
        promiseAfter();
        noneRights();
        oneRights();
        twoRight();
        noRowRights();
        leastAsNumber();
        promiseRighted();
        allRightedByDays();
        allRightedByAll();
        promiseAllRighted();
        roundsBehind();
        roundsFurther();
        promiseRing();
        firstNone();
        firstAlike();
        promiseFirst();
        whoAsBits();
        promiseWho();
        codeOfDs();
        promiseCode();
        promiseCodeName();
        check.end();
    }

    // ---- names and rows that are told

    /** Figures that tell no name of l letters: too many of them, one beyond 3 at each place, less than 0. */
    private static int[] noNames(int l) {
        int[] told = new int[2 * l + 6];
        for (int i = 0; i < l; i++) {
            told[2 * i] = 4 * TENS[i];
            told[2 * i + 1] = 9 * TENS[i];
        }
        told[2 * l] = TENS[l];
        told[2 * l + 1] = TENS[l] + 1;
        told[2 * l + 2] = -1;
        told[2 * l + 3] = NONE;
        told[2 * l + 4] = LEAST;
        told[2 * l + 5] = MOST;
        return told;
    }

    private static void namesThatAreTold() {
        check.sentence("A NAME is a row of L LETTERS 0 .. 3 .. told as figures");
        for (int l = 1; l <= 5; l++) {
            ErrataColumn x = Check.columnOf(l, "C0");
            int greatest = TENS[l] / 3;
            check.due("after of 0", x.after(0, 1, 0), 0);
            check.due("after of " + greatest, x.after(greatest, 1, 3), greatest);
            check.due("who of 0", x.who(0, 0, 0, 0), 1);
            check.due("who of " + greatest, x.who(greatest, greatest, 0, 3), 1);
            for (int told : noNames(l)) {
                check.due("after of " + told + ", L " + l, x.after(told, 1, 0), BAD);
                check.due("who of " + told + ", L " + l, x.who(told, 0, 0, 0), BAD);
                check.due("who to " + told + ", L " + l, x.who(0, told, 0, 0), BAD);
            }
        }
    }

    private static void allNamesThatAreTold() {
        check.sentence("NAMES are told as figures, the first LETTER first");
        for (int l = 1; l <= 5; l++) {
            ErrataColumn x = null;
            for (int told = 0; told <= TENS[l] + 100; told++) {
                x = told % 400 == 0 ? Check.columnOf(l, "C0") : x;
                String figures = String.format("%0" + l + "d", told);
                boolean isName = figures.length() == l && figures.matches("[0-3]*");
                check.due("after(" + told + ", 1, 2), L " + l, x.after(told, 1, 2),
                    isName ? told % TENS[l - 1] + 2 * TENS[l - 1] : BAD);
            }
        }
    }

    private static void figuresOfRows() {
        check.sentence("A ROW of n NOTICES is told as 3 n figures: COMPOSITOR, PLACE, LETTER each");
        figuresOfRows("after", 4, (x, n, row) -> x.after(0, n, row));
        figuresOfRows("ring", 3, (x, n, row) -> x.ring(n, row, 0));
        figuresOfRows("first", 3, (x, n, row) -> x.first(n, row, 0));
    }

    private static void figuresOfRows(String call, int most, OfRow of) {
        ErrataColumn x = Check.columnOf(3, "C0C0");
        int[] beyond = {200, 900, 30, 90, 4, 9, 999};
        for (int n = 1; n <= most; n++) {
            long one = 1;
            for (int at = 0; at < n; at++) {
                check.holds(call + ", the greatest notice at " + at + " of " + n, of.answer(x, n, 123 * one) != BAD);
                for (int notice : beyond) {
                    check.due(call + ", " + notice + " at " + at + " of " + n, of.answer(x, n, notice * one), BAD);
                }
                one *= 1000;
            }
            check.due(call + ", a figure more than 3 * " + n, of.answer(x, n, one), BAD);
            check.due(call + ", a notice more than " + n, of.answer(x, n, 123 * one), BAD);
            check.due(call + ", less than 0", of.answer(x, n, -1), BAD);
            check.due(call + ", less than 0, figures are fine", of.answer(x, n, -123), BAD);
            check.due(call + ", MIN", of.answer(x, n, Long.MIN_VALUE), BAD);
            check.due(call + ", MAX", of.answer(x, n, Long.MAX_VALUE), BAD);
            check.due(call + ", 0 in its lower 32 bits", of.answer(x, n, 125L << 32), BAD);
        }
        int[] counts = {0, -1, most + 1, LEAST, MOST};
        for (int n : counts) {
            check.due(call + ", n " + n, of.answer(x, n, 0), BAD);
        }
    }

    private static void rowsOfNobody() {
        check.sentence("UNKNOWN -1 (there is no such COMPOSITOR ..), but after, ring, first: BAD: row");
        ErrataColumn x = new ErrataColumn();
        check.due("after", x.after(0, 1, 0), BAD);
        check.due("ring", x.ring(1, 0, 0), BAD);
        check.due("first", x.first(1, 0, 0), BAD);
        for (int c = 1; c <= 3; c++) {
            x = Check.columnOf(1, "C0".repeat(c));
            check.due("the last one of " + c, x.after(1, 1, 100 * (c - 1)), 0);
            check.due("one more than " + c, x.after(1, 1, 100 * c), BAD);
        }
    }

    private static void promiseAfter() {
        check.sentence("AFTER a ROW. BAD: name, n (1 .. 4), row.");
        ErrataColumn x = Check.columnOf(5, "C0C1C3");
        check.due("one", x.after(0, 1, 2), 20000);
        check.due("one behind the other", x.after(0, 2, 2003), 30000);
        check.due("two", x.after(0, 2, 43002), 20003);
        check.due("three", x.after(0, 3, 43002142L), 30002);
        check.due("four, the last first in what it does", x.after(0, 4, 43002142242L), 20003);
        check.due("n 0", x.after(0, 0, 0), BAD);
        check.due("n 5", x.after(0, 5, 0), BAD);
        check.due("name and n and row", x.after(-1, 0, -1), BAD);
        check.due("said is as it was", x.about(4), 0);
    }

    // ---- what rights

    private static void righted(String paper, int fewest, int row) {
        ErrataColumn x = Check.column(paper);
        check.due("righted(0) of " + paper, x.righted(0), fewest);
        check.due("righted(1) of " + paper, x.righted(1), row);
    }

    private static void noneRights() {
        check.sentence("RIGHTED: the fewest NOTICES (0 .. 2) by which SAID is TRUTH .. (0: none)");
        righted("Ea/a", 0, 0);
        righted("Eabcda/abcdaC0C1C2", 0, 0);
        righted("Eab/abC0R10", 0, 0);
    }

    private static void oneRights() {
        check.sentence("RIGHTED: 1");
        righted("Ea/bC0", 1, 0);
        righted("Eabcda/abcdbC0", 1, 40);
        righted("Eabcdd/abcdaC0", 1, 43);
        righted("Eabcda/abcdbC2", 1, 43);
        righted("Eab/baC3", 1, 1);
        righted("Ea/dC1", 1, 3);
    }

    private static void twoRight() {
        check.sentence("RIGHTED: 2");
        righted("Eab/baC0", 2, 11);
        righted("Eabcda/bbcdbC0", 2, 40);
        righted("Eabcdd/abcaaC0", 2, 33043);
        righted("Eaab/bbbC2C3", 2, 3013);
        righted("Eab/acC3", 2, 1);
        righted("Ebc/acC3", 2, 11);
        righted("Eaab/abbC1C3", 2, 100100);
        righted("Eabc/bcaC1C2C3", 2, 201220);
    }

    private static void noRowRights() {
        check.sentence("RIGHTED: NONE");
        righted("Ea/b", NONE, NONE);
        righted("Eaaa/bbbC0", NONE, NONE);
        righted("Eabcdd/aaaaaC0C0C0", NONE, NONE);
        righted("Eaab/aacC1", NONE, NONE);
    }

    private static void leastAsNumber() {
        check.sentence("the first such ROW (the least as a number)");
        righted("Ea/bC0C0C0", 1, 0);
        righted("Ea/bC2C0", 1, 3);
        righted("Eab/aaC3C0", 1, 1);
        righted("Eab/aaC2C0", 1, 10);
        righted("Eaca/aaaC1C0", 1, 112);
        check.due("a row of two would be less", Check.column("Eaca/aaaC1C0").after(0, 2, 0), 20);
    }

    private static void promiseRighted() {
        check.sentence("RIGHTED: how many (what = 0), the ROW (1); NONE. BAD.");
        ErrataColumn x = Check.column("Eab/aaC0");
        check.due("righted(0)", x.righted(0), 1);
        check.due("righted(1)", x.righted(1), 11);
        int[] bad = {-1, 2, LEAST, MOST};
        for (int what : bad) {
            check.due("righted(" + what + ")", x.righted(what), BAD);
            check.due("BAD where there is none", Check.column("Ea/b").righted(what), BAD);
        }
    }

    private static void allRighted(ErrataColumn x, String when, int fewest, int row) {
        check.due("allRighted(0), " + when, x.allRighted(0), fewest);
        check.due("allRighted(1), " + when, x.allRighted(1), row);
    }

    /** The one reader reads on day 3, then on day 7. */
    private static void allRightedByDays() {
        check.sentence("ALL RIGHTED: the fewest NOTICES (0 .. 2), PRINTED DAY by DAY from now on");
        ErrataColumn x = Check.column("Eab/aaC0R43");
        int[] fewest = {NONE, NONE, 2, 1, NONE, NONE, 2, 1};
        int[] row = {NONE, NONE, 11, 11, NONE, NONE, 11, 11};
        for (int day = 0; day < fewest.length; day++) {
            allRighted(x, "day " + day, fewest[day], row[day]);
            x.quiet();
        }
        allRighted(Check.column("Eab/baC0R10"), "two places, each day read", 2, 11);
        allRighted(Check.column("Eab/baC0R20"), "two places, one day read", NONE, NONE);
        allRighted(Check.column("Eaaa/bbbC0R10"), "three places", NONE, NONE);
        allRighted(Check.column("Ebcc/accC3R20"), "said alone can be righted", NONE, NONE);
    }

    private static void allRightedByAll() {
        check.sentence("by which SAID is TRUTH and all READERS believe it");
        allRighted(Check.column("Ea/a"), "nobody", 0, 0);
        allRighted(Check.column("Ea/b"), "nobody, said is wrong", NONE, NONE);
        allRighted(Check.column("Ea/bC0"), "no reader", 1, 0);
        allRighted(Check.column("Ea/aC0R10R21R32R43"), "all believe it", 0, 0);
        String[] readers = {"R21R10R10R10", "R10R21R10R10", "R10R10R21R10", "R10R10R10R21"};
        for (int late = 0; late < 4; late++) {
            ErrataColumn x = Check.column("Ea/bC0" + readers[late]);
            allRighted(x, "reader " + late + " reads a day later", 2, 0);
            x.print(0, 0, 0);
            check.due("said is right", x.righted(0), 0);
            allRighted(x, "all but reader " + late, 1, 0);
            x.tell(late, (late + 1) % 4);
            allRighted(x, "told", 0, 0);
        }
        ErrataColumn x = Check.column("Ea/aC0R10R21");
        x.print(0, 0, 1);
        allRighted(x, "said is wrong, one of two believes truth", 1, 0);
        x.quiet();
        x.quiet();
        x.learn(0, 2);
        allRighted(x, "as it has learnt", 1, 3);
    }

    private static void promiseAllRighted() {
        check.sentence("ALL RIGHTED: how many (what = 0), the ROW (1); NONE. BAD.");
        ErrataColumn x = Check.column("Eab/aaC2R10");
        check.due("allRighted(0)", x.allRighted(0), 1);
        check.due("allRighted(1)", x.allRighted(1), 10);
        int[] bad = {-1, 2, LEAST, MOST};
        for (int what : bad) {
            check.due("allRighted(" + what + ")", x.allRighted(what), BAD);
            check.due("BAD where there is none", Check.column("Ea/b").allRighted(what), BAD);
        }
    }

    // ---- rings

    private static void ring(String paper, int n, long row, int behind, int further) {
        ErrataColumn x = Check.column(paper);
        check.due("ring(" + n + ", " + row + ", 0) of " + paper, x.ring(n, row, 0), behind);
        check.due("ring(" + n + ", " + row + ", 1) of " + paper, x.ring(n, row, 1), further);
    }

    private static void roundsBehind() {
        check.sentence("RING: behind how many rounds SAID comes to a NAME that it comes to once more (the least such number)");
        ring("Ea/aC0", 1, 0, 0, 1);
        ring("Ea/bC0", 1, 0, 1, 1);
        ring("Eaa/abC3", 1, 0, 2, 1);
        ring("Eaaaa/aaaaC3C1", 3, 20030101L, 3, 4);
        ring("Eaaaaa/aaaaaC3", 3, 30040001L, 4, 1);
    }

    private static void roundsFurther() {
        check.sentence("and how many rounds further that is, the next time");
        ring("Ea/dC1", 1, 2, 0, 1);
        ring("Eaa/aaC1", 1, 0, 0, 4);
        ring("Eaa/aaC1", 2, 0, 0, 2);
        ring("Eaa/aaC1", 3, 0, 0, 4);
        ring("Eaa/baC1", 1, 0, 1, 4);
        ring("Eaa/baC1", 2, 0, 1, 2);
    }

    private static void promiseRing() {
        check.sentence("RING of a ROW (1 .. 3): behind how many rounds (what = 0), how many further (1). BAD: n, row, what.");
        ErrataColumn x = Check.column("Eaa/baC1");
        int[] counts = {0, -1, 4, LEAST, MOST};
        for (int n : counts) {
            check.due("ring(" + n + ", 0, 0)", x.ring(n, 0, 0), BAD);
        }
        check.due("ring(1, 0, 0)", x.ring(1, 0, 0), 1);
        check.due("ring(3, 0, 1)", x.ring(3, 0, 1), 4);
        int[] bad = {-1, 2, LEAST, MOST};
        for (int what : bad) {
            check.due("ring(1, 0, " + what + ")", x.ring(1, 0, what), BAD);
        }
        check.due("all of them", x.ring(0, -1, 2), BAD);
        check.due("said is as it was", x.about(4), 10);
    }

    // ---- what was said first

    private static void first(String paper, int n, long row, int count, int least, int alike) {
        ErrataColumn x = Check.column(paper);
        check.due("first(" + n + ", " + row + ", 0) of " + paper, x.first(n, row, 0), count);
        check.due("first(" + n + ", " + row + ", 1) of " + paper, x.first(n, row, 1), least);
        check.due("first(" + n + ", " + row + ", 2) of " + paper, x.first(n, row, 2), alike);
    }

    private static void firstNone() {
        check.sentence("FIRST by a ROW: NAMES that by it come to SAID: how many; the least one; NONE (of the latter two)");
        first("Ea/aC0", 1, 1, 0, NONE, NONE);
        first("Eabcda/abcdaC0", 1, 1, 0, NONE, NONE);
        first("Ea/dC0", 1, 3, 4, 0, 0);
        first("Eddddd/dddddC0", 1, 3, 4, 3333, 30);
        first("Eaaa/dddC0", 3, 3013023L, 64, 0, 0);
    }

    private static void firstAlike() {
        check.sentence("PLACES (bits) at which all of them are alike");
        for (int place = 0; place < 5; place++) {
            first("Eaaaaa/aaaaaC0", 1, 10 * place, 4, 0, 31 - (1 << place));
        }
        first("Eabc/abcC3", 1, 1, 4, 2, 6);
        first("Eabc/abcC1", 1, 0, 4, 2, 6);
    }

    private static void promiseFirst() {
        check.sentence("FIRST by a ROW (1 .. 3): how many (what = 0), the least (1), PLACES alike (2); NONE. BAD: n, row, what.");
        ErrataColumn x = Check.column("Eabc/abcC0");
        int[] counts = {0, -1, 4, LEAST, MOST};
        for (int n : counts) {
            check.due("first(" + n + ", 0, 0)", x.first(n, 0, 0), BAD);
        }
        check.due("first(1, 0, 0)", x.first(1, 0, 0), 4);
        check.due("first(3, 0, 1)", x.first(3, 0, 1), 12);
        check.due("first(3, 0, 2)", x.first(3, 0, 2), 6);
        int[] bad = {-1, 3, LEAST, MOST};
        for (int what : bad) {
            check.due("first(1, 0, " + what + ")", x.first(1, 0, what), BAD);
            check.due("BAD where there is none", x.first(1, 3, what), BAD);
        }
        check.due("all of them", x.first(0, -1, 3), BAD);
    }

    // ---- who, codes

    private static void whoAsBits() {
        check.sentence("WHO: COMPOSITORS (bits) that by a NOTICE for p and x make of one NAME another");
        check.due("nobody there", new ErrataColumn().who(0, 0, 0, 0), 0);
        check.due("all", Check.columnOf(2, "C0C0C0").who(0, 30, 0, 3), 7);
        check.due("none", Check.columnOf(2, "C0C0C0").who(0, 3, 0, 3), 0);
        check.due("the first", Check.columnOf(2, "C0C2C1").who(0, 30, 0, 3), 1);
        check.due("the second", Check.columnOf(2, "C0C2C1").who(0, 0, 0, 3), 2);
        check.due("the third", Check.columnOf(2, "C0C2C1").who(0, 31, 0, 3), 4);
        check.due("the first and the third", Check.columnOf(2, "C0C2C3").who(3, 33, 0, 3), 5);
    }

    private static void promiseWho() {
        check.sentence("WHO, as bits. BAD: name, other, place, letter.");
        for (int l = 1; l <= 5; l++) {
            ErrataColumn x = Check.columnOf(l, "C0");
            check.due("the last place", x.who(0, 3, l - 1, 3), 1);
            int[] places = {-1, l, LEAST, MOST};
            for (int place : places) {
                check.due("place " + place + " of " + l, x.who(0, 0, place, 0), BAD);
            }
            int[] letters = {-1, 4, LEAST, MOST};
            for (int letter : letters) {
                check.due("letter " + letter, x.who(0, 0, 0, letter), BAD);
            }
        }
        check.due("all of them, nobody there", new ErrataColumn().who(-1, -1, -1, -1), BAD);
    }

    private static void codeOfDs() {
        check.sentence("CODE of d (1 .. 5): NAMES from the least on, each taken that is unlike all that were taken at d PLACES or more");
        int[][] counts = {{4, 1, 1, 1, 1}, {16, 4, 1, 1, 1}, {64, 16, 4, 1, 1}, {256, 64, 16, 4, 1}, {1024, 256, 64, 16, 4}};
        for (int l = 1; l <= 5; l++) {
            ErrataColumn x = Check.columnOf(l, "");
            for (int d = 1; d <= 5; d++) {
                int count = counts[l - 1][d - 1];
                check.due("code(" + d + ") of " + l, x.code(d), count);
                check.due("the first one", x.codeName(d, 0), 0);
                check.due("one more than there are", x.codeName(d, count), LATE);
                check.holds("the last one is there", x.codeName(d, count - 1) >= 0);
            }
            check.due("the last one of d 1", x.codeName(1, counts[l - 1][0] - 1), TENS[l] / 3);
            check.due("the last one of d L", x.codeName(l, 3), TENS[l] / 3);
        }
    }

    private static void promiseCode() {
        check.sentence("CODE: how many NAMES. BAD: d.");
        ErrataColumn x = Check.column("Eab/abC0");
        int[] bad = {0, -1, 6, LEAST, MOST};
        for (int d : bad) {
            check.due("code(" + d + ")", x.code(d), BAD);
        }
        check.due("code(1)", x.code(1), 16);
        check.due("code(5)", x.code(5), 1);
    }

    private static void promiseCodeName() {
        check.sentence("CODE: the n-th NAME. BAD: d; LATE: there are not so many, n is less than 0.");
        ErrataColumn x = Check.columnOf(2, "");
        int[] four = {0, 11, 22, 33};
        for (int n = 0; n < four.length; n++) {
            check.due("codeName(2, " + n + ")", x.codeName(2, n), four[n]);
        }
        int[] late = {-1, 4, NONE, LEAST, MOST};
        for (int n : late) {
            check.due("codeName(2, " + n + ")", x.codeName(2, n), LATE);
        }
        int[] bad = {0, -1, 6, LEAST, MOST};
        for (int d : bad) {
            check.due("codeName(" + d + ", 0)", x.codeName(d, 0), BAD);
            check.due("BAD is told ahead of LATE", x.codeName(d, -1), BAD);
            check.due("BAD is told ahead of LATE", x.codeName(d, MOST), BAD);
        }
    }
}
