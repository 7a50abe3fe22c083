/** Promises 14 to 21: rows of notices, what rights, rings, what was first, who set a notice, codes. */
public final class NamesTest {
    private static final int BAD = ErrataColumn.BAD, NONE = ErrataColumn.NONE, LATE = ErrataColumn.LATE;
    private static final Check check = new Check("NamesTest");

    public static void main(String[] args) {
        after();
        righted();
        allRighted();
        ring();
        first();
        who();
        code();
        codeName();
        nothingChanges();
        check.end();
    }

    private static void after() {
        ErrataColumn x = Check.column("Eaaaa/aaaaC0C1C2");
        check.due("14: one", x.after(123, 1, 13), 323);
        check.due("14: four", x.after(123, 4, 3132213020L), 2);
        check.due("14: the greatest", x.after(3333, 4, 233233233233L), 3330);
        check.due("14: name", x.after(-1, 1, 0), BAD);
        check.due("14: name", x.after(4, 1, 0), BAD);
        check.due("14: name", x.after(400, 1, 0), BAD);
        check.due("14: name", x.after(10000, 1, 0), BAD);
        check.due("14: name", x.after(Integer.MIN_VALUE, 1, 0), BAD);
        check.due("14: n", x.after(0, 0, 0), BAD);
        check.due("14: n", x.after(0, 5, 0), BAD);
        check.due("14: row", x.after(0, 1, -1), BAD);
        check.due("14: row, compositor", x.after(0, 1, 300), BAD);
        check.due("14: row, place", x.after(0, 1, 40), BAD);
        check.due("14: row, letter", x.after(0, 1, 4), BAD);
        check.due("14: row, longer than n", x.after(0, 1, 1000), BAD);
        check.due("14: row, longer than four", x.after(0, 4, 1000000000000L), BAD);
        check.due("14: row, a wrong one ahead", x.after(0, 2, 300000), BAD);
        check.due("14: row", x.after(0, 4, Long.MAX_VALUE), BAD);
        check.due("14: row", x.after(0, 4, Long.MIN_VALUE), BAD);
        x.learn(0, 3);
        check.due("14: as it has learnt", x.after(123, 1, 13), 233);
    }

    private static void righted(String paper, int fewest, int row) {
        ErrataColumn x = Check.column(paper);
        check.due("15: righted(0) of " + paper, x.righted(0), fewest);
        check.due("15: righted(1) of " + paper, x.righted(1), row);
    }

    private static void righted() {
        righted("Eab/abC0", 0, 0);
        righted("Eab/ab", 0, 0);
        righted("Eab/aa", NONE, NONE);
        righted("Eab/aaC0", 1, 11);
        righted("Eab/bbC0", 1, 0);
        righted("Eab/baC0", 2, 11);
        righted("Eabc/bcaC0", NONE, NONE);
        righted("Ea/bC2", 1, 3);
        righted("Eab/baC3", 1, 1);
        righted("Eab/baC0C3", 1, 101);
        righted("Eaa/adC1", 1, 0);
        righted("Eab/aaC0R21R32", 1, 11);
        check.due("15: what", Check.column("Ea/a").righted(2), BAD);
        check.due("15: what", Check.column("Ea/a").righted(-1), BAD);
    }

    private static void allRighted(ErrataColumn x, String when, int fewest, int row) {
        check.due("16: allRighted(0) " + when, x.allRighted(0), fewest);
        check.due("16: allRighted(1) " + when, x.allRighted(1), row);
    }

    private static void allRighted() {
        allRighted(Check.column("Ea/aC0R10R21"), "all is right", 0, 0);
        allRighted(Check.column("Eab/aaC0"), "nobody reads", 1, 11);
        allRighted(Check.column("Eab/aaC0R10R20"), "all read", 1, 11);
        allRighted(Check.column("Eab/aaC0R21"), "one reads tomorrow", 2, 11);
        ErrataColumn x = Check.column("Ea/bC0R32");
        allRighted(x, "one reads behind tomorrow", NONE, NONE);
        x.quiet();
        allRighted(x, "a day on", 2, 0);
        x.quiet();
        allRighted(x, "two days on", 1, 0);
        x = Check.column("Ea/bC0R21");
        x.print(0, 0, 0);
        check.due("16: said is right", x.righted(0), 0);
        allRighted(x, "said is right, a belief is not", 1, 0);
        x = Check.column("Eabcd/aabcC1C3R10R40R41");
        check.due("16: what", x.allRighted(2), BAD);
        check.due("16: what", x.allRighted(-1), BAD);
    }

    private static void ring(String paper, int n, long row, int entry, int further) {
        ErrataColumn x = Check.column(paper);
        check.due("17: ring(.., 0) of " + paper, x.ring(n, row, 0), entry);
        check.due("17: ring(.., 1) of " + paper, x.ring(n, row, 1), further);
    }

    private static void ring() {
        ring("Ea/aC0", 1, 0, 0, 1);
        ring("Ea/bC0", 1, 0, 1, 1);
        ring("Eaa/aaC1", 1, 0, 0, 4);
        ring("Eaa/baC1", 1, 0, 1, 4);
        ring("Eaa/aaC1", 2, 0, 0, 2);
        ring("Eaaa/aaaC0", 3, 1012023L, 1, 1);
        ring("Eaaa/bcdC0", 3, 1012023L, 0, 1);
        ErrataColumn x = Check.column("Eaa/aaC1C0");
        check.due("17: n", x.ring(0, 0, 0), BAD);
        check.due("17: n", x.ring(4, 0, 0), BAD);
        check.due("17: row", x.ring(1, 200, 0), BAD);
        check.due("17: row", x.ring(1, 20, 0), BAD);
        check.due("17: row", x.ring(1, 1000, 0), BAD);
        check.due("17: row", x.ring(3, -1, 0), BAD);
        check.due("17: what", x.ring(1, 0, 2), BAD);
        check.due("17: what", x.ring(1, 0, -1), BAD);
    }

    private static void first(String paper, int n, long row, int count, int least, int alike) {
        ErrataColumn x = Check.column(paper);
        check.due("18: first(.., 0) of " + paper, x.first(n, row, 0), count);
        check.due("18: first(.., 1) of " + paper, x.first(n, row, 1), least);
        check.due("18: first(.., 2) of " + paper, x.first(n, row, 2), alike);
    }

    private static void first() {
        first("Eabc/abcC0", 1, 0, 4, 12, 6);
        first("Eabc/abcC0", 1, 3, 0, NONE, NONE);
        first("Eab/abC3", 1, 1, 4, 0, 2);
        first("Eabc/abcC0", 2, 11, 16, 2, 4);
        first("Eabc/abcC0", 3, 11022L, 64, 0, 0);
        first("Eabc/abcC1", 1, 0, 4, 2, 6);
        ErrataColumn x = Check.column("Eabc/abcC0");
        check.due("18: n", x.first(0, 0, 0), BAD);
        check.due("18: n", x.first(4, 0, 0), BAD);
        check.due("18: row", x.first(1, 100, 0), BAD);
        check.due("18: row", x.first(1, 4, 0), BAD);
        check.due("18: what", x.first(1, 0, 3), BAD);
        check.due("18: what", x.first(1, 0, -1), BAD);
    }

    private static void who() {
        ErrataColumn x = Check.column("Eab/abC0C2C3");
        check.due("19: plain", x.who(32, 12, 0, 1), 1);
        check.due("19: proud", x.who(33, 13, 0, 0), 2);
        check.due("19: hasty", x.who(32, 21, 0, 1), 4);
        check.due("19: plain and hasty", x.who(32, 22, 0, 2), 5);
        check.due("19: nobody", x.who(32, 11, 0, 1), 0);
        check.due("19: name", x.who(-1, 0, 0, 0), BAD);
        check.due("19: name", x.who(100, 0, 0, 0), BAD);
        check.due("19: other", x.who(0, 40, 0, 0), BAD);
        check.due("19: other", x.who(0, -3, 0, 0), BAD);
        check.due("19: place", x.who(0, 0, 2, 0), BAD);
        check.due("19: place", x.who(0, 0, -1, 0), BAD);
        check.due("19: letter", x.who(0, 0, 0, 4), BAD);
        check.due("19: letter", x.who(0, 0, 0, -1), BAD);
    }

    private static void code() {
        int[] three = {64, 16, 4, 1, 1};
        int[] five = {1024, 256, 64, 16, 4};
        ErrataColumn x = Check.column("Eaaa/aaa");
        ErrataColumn y = Check.column("Eaaaaa/aaaaa");
        for (int d = 1; d <= 5; d++) {
            check.due("20: code(" + d + ") of 3 letters", x.code(d), three[d - 1]);
            check.due("20: code(" + d + ") of 5 letters", y.code(d), five[d - 1]);
        }
        check.due("20: d", x.code(0), BAD);
        check.due("20: d", x.code(6), BAD);
        Check.rewrite(y, "Ea/a");
        y.paper();
        check.due("20: code(1) of a shorter paper", y.code(1), 4);
    }

    private static void codeName() {
        ErrataColumn x = Check.column("Eaaa/aaa");
        int[] two = {0, 11, 22, 33, 101, 110, 123, 132};
        for (int n = 0; n < two.length; n++) {
            check.due("21: codeName(2, " + n + ")", x.codeName(2, n), two[n]);
        }
        check.due("21: the last one", x.codeName(1, 63), 333);
        check.due("21: codeName(3, 1)", x.codeName(3, 1), 111);
        check.due("21: codeName(4, 0)", x.codeName(4, 0), 0);
        check.due("21: not so many", x.codeName(4, 1), LATE);
        check.due("21: not so many", x.codeName(1, 64), LATE);
        check.due("21: not so many", x.codeName(1, Integer.MAX_VALUE), LATE);
        check.due("21: less than 0", x.codeName(1, -1), LATE);
        check.due("21: less than 0", x.codeName(1, NONE), LATE);
        check.due("21: bad is told first", x.codeName(0, -1), BAD);
        check.due("21: d", x.codeName(6, 0), BAD);
    }

    private static void nothingChanges() {
        ErrataColumn x = Check.column("Eabcd/dcbaC1C2C3R10R21");
        x.quiet();
        x.after(123, 3, 110221L);
        x.righted(0);
        x.allRighted(1);
        x.ring(2, 110221L, 1);
        x.first(2, 110221L, 2);
        x.who(123, 321, 1, 1);
        x.code(3);
        x.codeName(2, 9);
        x.rests(0, 0, 1, 1, 0);
        x.chance(1, 4, 3, true);
        x.share(1, true);
        x.years(30);
        int[] due = {3, 2, 4, 123, 3210, 0, 1, 3, 0, 1, 22};
        for (int what = 0; what < due.length; what++) {
            check.due("about(" + what + ") behind looks", x.about(what), due[what]);
        }
        check.due("reader(0, 2) behind looks", x.reader(0, 2), 3210);
        check.due("kind(2) behind looks", x.kind(2), 3);
    }
}
