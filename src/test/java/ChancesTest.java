/** Promises 22 to 26: rests, chances, shares, the seed and years by it. */
public final class ChancesTest {
    private static final int BAD = ErrataColumn.BAD, UNKNOWN = ErrataColumn.UNKNOWN;
    private static final Check check = new Check("ChancesTest");

    public static void main(String[] args) {
        rests();
        chance();
        share();
        seed();
        years();
        check.end();
    }

    private static void rests() {
        ErrataColumn x = Check.column("Eab/aaC0C2");
        check.due("22: how many", x.rests(0, 0, 1, 1, 0), 1);
        check.due("22: the first one", x.rests(0, 0, 1, 1, 1), 1);
        x = Check.column("Eab/aaC2C0");
        check.due("22: the first one, 10 times", x.rests(0, 0, 1, 1, 1), 10);
        x = Check.column("Eaa/aaC0C0C0");
        check.due("22: all alike", x.rests(0, 0, 0, 3, 0), 9);
        check.due("22: all alike", x.rests(0, 0, 0, 3, 1), 0);
        x = Check.column("Eaa/aa");
        check.due("22: nobody", x.rests(0, 0, 0, 0, 0), 0);
        check.due("22: nobody", x.rests(0, 0, 0, 0, 1), ErrataColumn.NONE);
        noRest();
        check.due("22: p", x.rests(2, 0, 0, 0, 0), BAD);
        check.due("22: p", x.rests(-1, 0, 0, 0, 0), BAD);
        check.due("22: x", x.rests(0, 4, 0, 0, 0), BAD);
        check.due("22: x", x.rests(0, -1, 0, 0, 0), BAD);
        check.due("22: q", x.rests(0, 0, 2, 0, 0), BAD);
        check.due("22: q", x.rests(0, 0, -1, 0, 0), BAD);
        check.due("22: y", x.rests(0, 0, 0, 4, 0), BAD);
        check.due("22: y", x.rests(0, 0, 0, -1, 0), BAD);
        check.due("22: what", x.rests(0, 0, 0, 0, 2), BAD);
        check.due("22: what", x.rests(0, 0, 0, 0, -1), BAD);
    }

    /** Careless, then either: 01 or 32, right at 1 or 0 places; proud, then either: 11 or 02, right at 0 or 1. */
    private static void noRest() {
        ErrataColumn x = Check.column("Eaa/aaC1C2");
        check.due("22: none rests", x.rests(0, 3, 1, 1, 0), 0);
        check.due("22: none rests", x.rests(0, 3, 1, 1, 1), ErrataColumn.NONE);
    }

    private static void chance(String paper, int n, int t, int above, int below) {
        ErrataColumn x = Check.column(paper);
        check.due("23: above, " + paper + " " + n + " " + t, x.chance(0, n, t, true), above);
        check.due("23: below, " + paper + " " + n + " " + t, x.chance(0, n, t, false), below);
    }

    private static void chance() {
        chance("Ea/bC2", 1, 3, 7, 10);
        chance("Ea/bC2", 1, 5, 1, 2);
        chance("Ea/bC2", 2, 3, 91, 100);
        chance("Ea/bC2", 4, 3, 9919, 10000);
        chance("Ea/bC2", 4, 0, 1, 1);
        chance("Ea/bC2", 4, 10, 0, 1);
        chance("Ea/aC2", 1, 10, 1, 1);
        chance("Eab/baC0", 1, 5, 0, 1);
        chance("Eab/baC0", 2, 5, 1, 1);
        chance("Eaa/bdC1", 1, 4, 2, 5);
        ErrataColumn x = Check.column("Ea/bC2");
        x.learn(0, 0);
        check.due("23: as it has learnt", x.chance(0, 1, 10, true), 1);
        check.due("23: unknown", x.chance(1, 0, 11, true), UNKNOWN);
        check.due("23: unknown", x.chance(-1, 1, 1, true), UNKNOWN);
        check.due("23: n", x.chance(0, 0, 1, true), BAD);
        check.due("23: n", x.chance(0, 5, 1, true), BAD);
        check.due("23: t", x.chance(0, 1, -1, true), BAD);
        check.due("23: t", x.chance(0, 1, 11, false), BAD);
    }

    private static void share(String paper, int compositor, int above, int below) {
        ErrataColumn x = Check.column(paper);
        check.due("24: above, " + paper + " " + compositor, x.share(compositor, true), above);
        check.due("24: below, " + paper + " " + compositor, x.share(compositor, false), below);
    }

    private static void share() {
        share("Eab/baC0", 0, 1, 1);
        share("Eab/baC0C0", 1, 1, 2);
        share("Eab/baC0C3", 0, 1, 2);
        share("Eab/baC0C3", 1, 3, 2);
        share("Eab/baC0C0C3", 0, 1, 3);
        share("Eab/baC0C0C3", 1, 1, 3);
        share("Eab/baC0C0C3", 2, 4, 3);
        share("Eab/abC1C3", 0, 0, 1);
        check.due("24: unknown", Check.column("Eab/abC1").share(1, true), UNKNOWN);
        check.due("24: unknown", Check.column("Eab/abC1").share(-1, false), UNKNOWN);
    }

    private static void seed() {
        ErrataColumn x = new ErrataColumn();
        check.due("25: 0 at first", x.seed(Long.MIN_VALUE), 0);
        check.due("25: what it was", x.seed(-1), Long.MIN_VALUE);
        check.due("25: what it was", x.seed(7), -1);
    }

    private static void years() {
        ErrataColumn x = new ErrataColumn();
        check.due("26: one", x.years(1), 1);
        check.due("26: the seed goes on", x.seed(1), 1442695040888963407L);
        check.due("26: m", x.years(0), BAD);
        check.due("26: m", x.years(31), BAD);
        check.due("26: m", x.years(-1), BAD);
        check.due("26: refused, the seed stays", x.seed(1), 1);
        x.years(1);
        check.due("26: times and more", x.seed(0), 6364136223846793005L + 1442695040888963407L);
        x = Check.column("Eabcda/abcdaC1C2C3");
        int[] due = {3, 7, 10, 13, 16, 18, 19, 20, 22, 24, 25, 26, 27, 28, 30,
            31, 32, 33, 34, 34, 35, 37, 38, 39, 40, 41, 44, 47, 49, 49};
        for (int i = 0; i < due.length; i++) {
            x.seed(0);
            check.due("26: years(" + (i + 1) + ")", x.years(i + 1), due[i]);
        }
    }
}
