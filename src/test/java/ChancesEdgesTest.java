import java.math.BigInteger;

/** The edges of rests, chances, shares, the seed and years by it: Terms, part 3, and promises 22 to 26. */
public final class ChancesEdgesTest {
    private static final int UNKNOWN = ErrataColumn.UNKNOWN, BAD = ErrataColumn.BAD, NONE = ErrataColumn.NONE;
    private static final int LEAST = Integer.MIN_VALUE, MOST = Integer.MAX_VALUE;
    private static final long TIMES = 6364136223846793005L, AND = 1442695040888963407L;
    private static final Check check = new Check("ChancesEdgesTest");

    public static void main(String[] args) {
        restsNone();
        restsOfFew();
        restsFirst();
        promiseRests();
        daysOfChance();
        tenthsOfChance();
        chanceWhenRight();
        leastPlaceFirst();
        leastTerms();
        promiseChance();
        sharesOfFew();
        shareByNone();
        promiseShare();
        seedAtFirst();
        promiseSeed();
        yearsOfEachDraw();
        yearsOfUpperBits();
        yearsOfWrapping();
        yearsOfNobody();
        onlyTheSeed();
        promiseYears();
        check.end();
    }

    // ---- rests

    private static void rests(String paper, int[] at, int count, int first) {
        ErrataColumn x = Check.column(paper);
        check.due("rests(.., 0) of " + paper, x.rests(at[0], at[1], at[2], at[3], 0), count);
        check.due("rests(.., 1) of " + paper, x.rests(at[0], at[1], at[2], at[3], 1), first);
    }

    /** Of the first one plain and careless: right 0, 1, 0 by the second one; proud: 1, 0, 1. */
    private static void restsNone() {
        check.sentence("RESTS: pairs in which neither does better by another COMPOSITOR alone: how many; the first one; NONE");
        rests("Ea/a", new int[] {0, 0, 0, 0}, 0, NONE);
        rests("Eab/baR10", new int[] {1, 3, 1, 3}, 0, NONE);
        rests("Eaa/aaC0C1C2", new int[] {0, 3, 1, 1}, 0, NONE);
        rests("Eaa/aaC1C2", new int[] {0, 3, 1, 1}, 0, NONE);
        ErrataColumn x = Check.columnOf(5, "C0C0C0");
        check.due("of a paper before", x.rests(0, 0, 0, 0, 0), 9);
        Check.rewrite(x, "Eaa/aaC1C2");
        x.paper();
        check.due("of this one", x.rests(0, 3, 1, 1, 0), 0);
        check.due("of this one", x.rests(0, 3, 1, 1, 1), NONE);
    }

    private static void restsOfFew() {
        check.sentence("RESTS with one, two, three COMPOSITORS that do alike");
        for (int c = 1; c <= 3; c++) {
            rests("Eab/ba" + "C1".repeat(c), new int[] {0, 0, 1, 1}, c * c, 0);
        }
    }

    /** The matrices are told row by row, a row for each choice of the first one. */
    private static void restsFirst() {
        check.sentence("the first one (10 times the one and the other)");
        // 1 2 0, 1 2 0, 2 1 1
        rests("Eaa/aaC0C1C2", new int[] {0, 3, 1, 0}, 1, 22);
        // 0 1 2, 0 1 1, 1 2 1
        rests("Eba/aaC0C2C3", new int[] {1, 1, 0, 0}, 1, 20);
        // 2 1, 1 0
        rests("Eab/aaC0C2", new int[] {0, 0, 1, 1}, 1, 1);
        // 0 1, 1 2
        rests("Eab/aaC2C0", new int[] {0, 0, 1, 1}, 1, 10);
        // 0
        rests("Eb/aC0", new int[] {0, 0, 0, 0}, 1, 0);
    }

    private static void promiseRests() {
        check.sentence("RESTS: how many (what = 0), the first one (1); NONE. BAD.");
        for (int l = 1; l <= 5; l++) {
            ErrataColumn x = Check.columnOf(l, "C0");
            check.due("the last places, the last letters", x.rests(l - 1, 3, l - 1, 3, 0), 1);
            int[] places = {-1, l, LEAST, MOST};
            for (int place : places) {
                check.due("p " + place + " of " + l, x.rests(place, 0, 0, 0, 0), BAD);
                check.due("q " + place + " of " + l, x.rests(0, 0, place, 0, 0), BAD);
            }
            int[] letters = {-1, 4, LEAST, MOST};
            for (int letter : letters) {
                check.due("x " + letter, x.rests(0, letter, 0, 0, 0), BAD);
                check.due("y " + letter, x.rests(0, 0, 0, letter, 0), BAD);
            }
            int[] whats = {-1, 2, LEAST, MOST};
            for (int what : whats) {
                check.due("what " + what, x.rests(0, 0, 0, 0, what), BAD);
                check.due("what " + what + ", nobody there", new ErrataColumn().rests(0, 0, 0, 0, what), BAD);
            }
        }
    }

    // ---- chances

    private static void chance(String paper, int n, int t, int above, int below) {
        ErrataColumn x = Check.column(paper);
        check.due("chance(0, " + n + ", " + t + ", true) of " + paper, x.chance(0, n, t, true), above);
        check.due("chance(0, " + n + ", " + t + ", false) of " + paper, x.chance(0, n, t, false), below);
    }

    private static void daysOfChance() {
        check.sentence("CHANCE of a COMPOSITOR and n DAYS (1 .. 4)");
        String places = "aaaaa";
        for (int wrong = 0; wrong <= 5; wrong++) {
            String said = "b".repeat(wrong) + places.substring(wrong);
            for (int n = 1; n <= 4; n++) {
                chance("Eaaaaa/" + said + "C0", n, 5, n >= wrong ? 1 : 0, 1);
            }
        }
    }

    /** A proud one never rights; so it is right but for t tenths to the n. */
    private static void tenthsOfChance() {
        check.sentence("by t tenths (0 .. 10) as its KIND does, else as a PLAIN one, by itself");
        for (int n = 1; n <= 4; n++) {
            for (int t = 0; t <= 10; t++) {
                BigInteger all = BigInteger.TEN.pow(n);
                BigInteger well = all.subtract(BigInteger.valueOf(t).pow(n));
                BigInteger common = all.gcd(well);
                chance("Ea/bC2", n, t, well.divide(common).intValue(), all.divide(common).intValue());
            }
        }
    }

    private static void chanceWhenRight() {
        check.sentence("is righted by a NOTICE (none, if there is none)");
        for (int n = 1; n <= 4; n++) {
            for (int kind = 0; kind <= 3; kind++) {
                chance("Eabcda/abcdaC" + kind, n, 10, 1, 1);
                chance("Ea/aC" + kind, n, 0, 1, 1);
            }
        }
        chance("Eaa/adC1", 1, 10, 0, 1);
    }

    /** Careless at place 0 makes of ad the whole right one; at place 1 it would spoil place 0. */
    private static void leastPlaceFirst() {
        check.sentence("each DAY the least PLACE at which SAID is not as TRUTH");
        chance("Eaa/bdC1", 1, 10, 1, 1);
        chance("Eaa/bdC1", 2, 10, 1, 1);
        chance("Eaa/daC1", 1, 10, 0, 1);
        chance("Eaa/bdC1", 1, 4, 2, 5);
        chance("Eaaaaa/aaaabC2", 1, 3, 7, 10);
    }

    private static void leastTerms() {
        check.sentence("FRACTIONS are told above (upper = true), below, in least terms");
        chance("Ea/bC2", 1, 10, 0, 1);
        chance("Ea/bC2", 1, 5, 1, 2);
        chance("Ea/bC2", 2, 5, 3, 4);
        chance("Ea/bC2", 4, 1, 9999, 10000);
        chance("Ea/bC2", 4, 9, 3439, 10000);
    }

    private static void promiseChance() {
        check.sentence("CHANCE. UNKNOWN; BAD: n, t.");
        int[] days = {0, -1, 5, LEAST, MOST};
        int[] tenths = {-1, 11, LEAST, MOST};
        for (int c = 0; c <= 3; c++) {
            ErrataColumn x = Check.columnOf(2, "C0".repeat(c));
            int[] unknown = {-1, c, LEAST, MOST};
            for (int compositor : unknown) {
                check.due("chance(" + compositor + ", 1, 0)", x.chance(compositor, 1, 0, true), UNKNOWN);
                check.due("UNKNOWN is told ahead of BAD, n", x.chance(compositor, 0, 0, true), UNKNOWN);
                check.due("UNKNOWN is told ahead of BAD, t", x.chance(compositor, 1, 11, false), UNKNOWN);
            }
            check.due("the last one of " + c, x.chance(c - 1, 1, 0, true), c == 0 ? UNKNOWN : 1);
        }
        ErrataColumn x = Check.columnOf(2, "C0");
        for (int n : days) {
            check.due("n " + n, x.chance(0, n, 0, true), BAD);
            check.due("n " + n, x.chance(0, n, 10, false), BAD);
        }
        for (int t : tenths) {
            check.due("t " + t, x.chance(0, 1, t, true), BAD);
            check.due("t " + t, x.chance(0, 4, t, false), BAD);
        }
    }

    // ---- shares

    private static void share(String paper, int compositor, int above, int below) {
        ErrataColumn x = Check.column(paper);
        check.due("share(" + compositor + ", true) of " + paper, x.share(compositor, true), above);
        check.due("share(" + compositor + ", false) of " + paper, x.share(compositor, false), below);
    }

    /** A plain one makes of ba one place more right, a hasty one two. */
    private static void sharesOfFew() {
        check.sentence("SHARE: if COMPOSITORS come one by one, in each order as likely: by how much in the mean");
        share("Eab/baC0", 0, 1, 1);
        share("Eab/baC3", 0, 2, 1);
        share("Eab/baC0C0", 0, 1, 2);
        share("Eab/baC0C0", 1, 1, 2);
        share("Eab/baC0C3", 0, 1, 2);
        share("Eab/baC0C3", 1, 3, 2);
        share("Eab/baC3C0", 0, 3, 2);
        share("Eab/baC3C0", 1, 1, 2);
        for (int c = 0; c < 3; c++) {
            share("Eab/baC0C0C0", c, 1, 3);
            share("Eab/baC3C3C3", c, 2, 3);
        }
        share("Eab/baC0C0C3", 0, 1, 3);
        share("Eab/baC0C0C3", 2, 4, 3);
        share("Eab/baC0C3C3", 0, 1, 3);
        share("Eab/baC0C3C3", 1, 5, 6);
        share("Eab/baC0C3C3", 2, 5, 6);
    }

    private static void shareByNone() {
        check.sentence("RIGHT of SAID at most, by one NOTICE of one that has come, or by none");
        for (int c = 0; c < 3; c++) {
            share("Eab/abC0C1C3", c, 0, 1);
            share("Eabcda/abcdaC1C1C1", c, 0, 1);
        }
        share("Eabcd/abddC3", 0, 0, 1);
        share("Eabcd/abddC3C0", 1, 1, 1);
        share("Eab/cbC1C3", 1, 0, 1);
        share("Ebc/acC1C3", 0, 1, 1);
        share("Ebc/acC1C3", 1, 0, 1);
    }

    private static void promiseShare() {
        check.sentence("SHARE. UNKNOWN.");
        for (int c = 0; c <= 3; c++) {
            ErrataColumn x = Check.column("Ea/b" + "C0".repeat(c));
            int[] unknown = {-1, c, LEAST, MOST};
            for (int compositor : unknown) {
                check.due("share(" + compositor + ", true)", x.share(compositor, true), UNKNOWN);
                check.due("share(" + compositor + ", false)", x.share(compositor, false), UNKNOWN);
            }
            check.due("the last one of " + c, x.share(c - 1, true), c == 0 ? UNKNOWN : 1);
            check.due("the last one of " + c, x.share(c - 1, false), c == 0 ? UNKNOWN : c);
        }
    }

    // ---- the seed, years

    private static void seedAtFirst() {
        check.sentence("THE SEED, a long; 0 at first");
        check.due("a new object", new ErrataColumn().seed(1), 0);
        check.due("behind a paper", Check.column("Ea/aC0").seed(1), 0);
    }

    private static void promiseSeed() {
        check.sentence("THE SEED is v: what it was");
        ErrataColumn x = new ErrataColumn();
        long[] seeds = {Long.MIN_VALUE, Long.MAX_VALUE, -1, 1L << 32, BAD, 0};
        long was = 0;
        for (long v : seeds) {
            check.due("seed(" + v + ")", x.seed(v), was);
            was = v;
        }
    }

    /** The seed whose next one is x: the other way round, as the factor is odd. */
    private static long before(long x) {
        long inverse = 1;
        for (int i = 0; i < 6; i++) {
            inverse *= 2 - TIMES * inverse;
        }
        return (x - AND) * inverse;
    }

    private static int right(int name, int truth) {
        int count = 0;
        for (int i = 0; i < 5; i++) {
            count += name % 10 == truth % 10 ? 1 : 0;
            name /= 10;
            truth /= 10;
        }
        return count;
    }

    private static void yearsOfEachDraw() {
        check.sentence("what is left of its upper 31 bits by 60: by 20 (down) a COMPOSITOR, by 4 (down) a PLACE, a LETTER");
        for (int draw = 0; draw < 60; draw++) {
            ErrataColumn x = Check.column("Ebcdbc/bcdbcC0C1C3");
            int row = 100 * (draw / 20) + 10 * (draw % 20 / 4) + draw % 4;
            int due = right(x.after(12312, 1, row), 12312);
            long[] bits = {draw, draw + 60, draw + 60L * 35791393};
            for (long upper : bits) {
                oneYear(x, upper << 33, due);
                oneYear(x, (upper << 33) + (1L << 33) - 1, due);
            }
        }
    }

    private static void oneYear(ErrataColumn x, long then, int due) {
        x.seed(before(then));
        check.due("years(1) to " + then, x.years(1), due);
        check.due("the seed then", x.seed(0), then);
    }

    /** All 31 bits: 2147483647 leaves 7, a plain notice for place 1 and d; the uppermost alone leaves 4, place 1 and a;
     *  all but that one leave 3, place 0 and d. */
    private static void yearsOfUpperBits() {
        check.sentence("its upper 31 bits");
        ErrataColumn x = Check.column("Eaddd/aaaaC0");
        oneYear(x, -1, 2);
        oneYear(x, Long.MIN_VALUE, 1);
        oneYear(x, Long.MAX_VALUE, 0);
        x = Check.column("Eaaaa/aaaaC0");
        oneYear(x, -1, 3);
        oneYear(x, Long.MIN_VALUE, 4);
        oneYear(x, Long.MAX_VALUE, 3);
    }

    private static void yearsOfWrapping() {
        check.sentence("x becomes x times 6364136223846793005 and 1442695040888963407 (64 bits, wrapping)");
        long[] seeds = {0, 1, -1, Long.MIN_VALUE, Long.MAX_VALUE, 3, 1L << 33};
        for (long seed : seeds) {
            ErrataColumn x = new ErrataColumn();
            x.seed(seed);
            BigInteger due = BigInteger.valueOf(seed);
            for (int i = 0; i < 3; i++) {
                due = due.multiply(BigInteger.valueOf(TIMES)).add(BigInteger.valueOf(AND));
                x.years(1);
                long now = x.seed(0);
                check.due("from " + seed + ", " + (i + 1), now, due.longValue());
                x.seed(now);
            }
        }
    }

    /** A year without such a compositor or place counts what is right as well. */
    private static void yearsOfNobody() {
        check.sentence("if there is such a COMPOSITOR and PLACE: how much of it is RIGHT each time, together");
        check.due("nobody, one year", new ErrataColumn().years(1), 1);
        check.due("nobody, 30 years", new ErrataColumn().years(30), 30);
        for (int l = 1; l <= 5; l++) {
            for (int c = 0; c <= 3; c++) {
                ErrataColumn x = Check.columnOf(l, "C0".repeat(c));
                for (int draw = 3; draw < 60; draw += 4) {
                    boolean there = draw / 20 < c && draw % 20 / 4 < l;
                    oneYear(x, (long) draw << 33, there ? l - 1 : l);
                }
            }
        }
    }

    private static void onlyTheSeed() {
        check.sentence("(Nothing changes but THE SEED.)");
        ErrataColumn x = Check.column("Eabcda/dcbabC1C2C3R10R20");
        x.quiet();
        x.years(30);
        int[] due = {3, 2, 5, 1230, 32101, 0, 1, 1, 0, 1, 24};
        for (int what = 0; what < due.length; what++) {
            check.due("about(" + what + ")", x.about(what), due[what]);
        }
        check.due("reader(0, 2)", x.reader(0, 2), 32101);
        check.holds("the seed", x.seed(0) != 0);
    }

    private static void promiseYears() {
        check.sentence("YEARS (m times, 1 .. 30). BAD: m.");
        ErrataColumn x = new ErrataColumn();
        x.seed(77);
        int[] bad = {0, -1, 31, LEAST, MOST};
        for (int m : bad) {
            check.due("years(" + m + ")", x.years(m), BAD);
        }
        check.due("refused: the seed is as it was", x.seed(77), 77);
        check.due("years(1)", x.years(1), 1);
        check.due("years(30)", x.years(30), 30);
        long once = x.seed(77);
        for (int i = 0; i < 31; i++) {
            x.years(1);
        }
        check.due("31 times one is 1 and 30", x.seed(0), once);
    }
}
