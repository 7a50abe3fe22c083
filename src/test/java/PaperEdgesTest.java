/** The edges of the text, its faults, the paper and what is told of it: Terms, part 1, and promises 1 to 8. */
public final class PaperEdgesTest {
    private static final int UNKNOWN = ErrataColumn.UNKNOWN, BAD = ErrataColumn.BAD, LATE = ErrataColumn.LATE;
    private static final int FULL = ErrataColumn.FULL, NONE = ErrataColumn.NONE;
    private static final int LEAST = Integer.MIN_VALUE, MOST = Integer.MAX_VALUE;
    private static final String LONGEST = "Eabcda/dcbabC0C1C2R10R21R32R43";
    private static final Check check = new Check("PaperEdgesTest");

    public static void main(String[] args) {
        lengthOfNames();
        lettersOfNames();
        saidIsAsLong();
        namesAreFigures();
        bytesOfText();
        partsNoneOrMore();
        partsNumbered();
        compositorsAtMost();
        kinds();
        readersAtMost();
        periods();
        everyByteEverywhere();
        whateverCameBehind();
        lengthSetAside();
        onlyNotAtItsEnd();
        noFault();
        atFirst();
        madeAnew();
        promiseWrite();
        promiseWipe();
        promiseFault();
        promisePaper();
        paperForgets();
        paperAsNew();
        promiseAbout();
        aboutAtItsEnds();
        promiseKind();
        promiseReader();
        check.end();
    }

    private static void fault(String text, int due) {
        ErrataColumn x = Check.written(text);
        check.due("fault() of " + text, x.fault(), due);
        check.due("refused as a paper: " + text, x.paper() == LATE ? 1 : 0, due == NONE ? 0 : 1);
    }

    // ---- Terms

    private static void lengthOfNames() {
        check.sentence("A NAME is a row of L (1 .. 5) LETTERS");
        fault("E/", 1);
        fault("E/a", 1);
        for (int l = 1; l <= 5; l++) {
            String name = "a".repeat(l);
            fault("E" + name + "/" + name, NONE);
            check.due("L", Check.columnOf(l, "").about(2), l);
        }
        fault("Eaaaaaa", 6);
        fault("Eaaaaaa/aaaaaa", 6);
        check.due("L, refused: as it was", Check.column("Eaaaaaa/aaaaaa").about(2), 1);
    }

    private static void lettersOfNames() {
        check.sentence("LETTERS 0 .. 3 .. (LETTERS as a, b, c, d; L is how many)");
        for (int place = 1; place <= 11; place++) {
            if (place != 6) {
                StringBuilder s = new StringBuilder("Eaaaaa/aaaaa");
                letterAt(s, place, '`', place);
                letterAt(s, place, 'a', NONE);
                letterAt(s, place, 'd', NONE);
                letterAt(s, place, 'e', place);
                letterAt(s, place, 'A', place);
                letterAt(s, place, '0', place);
            }
        }
        ErrataColumn x = Check.column("Eabcd/dcba");
        check.due("truth", x.about(3), 123);
        check.due("said", x.about(4), 3210);
    }

    private static void letterAt(StringBuilder s, int place, char letter, int due) {
        s.setCharAt(place, letter);
        fault(s.toString(), due);
        s.setCharAt(place, 'a');
    }

    private static void saidIsAsLong() {
        check.sentence("all of them in one paper alike long .. a slash (/), SAID (as many)");
        for (int l = 1; l <= 5; l++) {
            String start = "E" + "a".repeat(l) + "/";
            for (int m = 0; m <= 6; m++) {
                String said = "b".repeat(m);
                int first = start.length() + Math.min(m, l);
                fault(start + said, m == l ? NONE : first);
                fault(start + said + "C0", m == l ? NONE : first);
            }
        }
    }

    private static void namesAreFigures() {
        check.sentence("NAMES are told as figures, the first LETTER first");
        ErrataColumn x = Check.column("Edaaaa/aaaad");
        check.due("truth", x.about(3), 30000);
        check.due("said", x.about(4), 3);
        check.due("all d", Check.column("Eddddd/aaaaa").about(3), 33333);
        check.due("all a", Check.column("Eddddd/aaaaa").about(4), 0);
    }

    private static void bytesOfText() {
        check.sentence("THE TEXT is bytes (40 at most)");
        ErrataColumn x = new ErrataColumn();
        for (int i = 1; i <= 40; i++) {
            check.due("byte " + i, x.write(i), i);
        }
        check.due("byte 41", x.write(41), FULL);
        check.due("bytes", x.about(10), 40);
    }

    private static void partsNoneOrMore() {
        check.sentence("then PARTS, none or more");
        fault("Ea/a", NONE);
        check.due("no parts", Check.written("Ea/a").paper(), 0);
        check.due("one part", Check.written("Ea/aC0").paper(), 10);
        check.due("one part", Check.written("Ea/aR10").paper(), 1);
        check.due("all parts", Check.written(LONGEST).paper(), 34);
    }

    private static void partsNumbered() {
        check.sentence("numbered as they are told, each kind for itself");
        ErrataColumn x = Check.column("Ea/aR43C3R10C1R32C2R21");
        int[] kinds = {3, 1, 2};
        int[] periods = {4, 1, 3, 2};
        int[] lefts = {3, 0, 2, 1};
        for (int c = 0; c < kinds.length; c++) {
            check.due("kind(" + c + ")", x.kind(c), kinds[c]);
        }
        for (int r = 0; r < periods.length; r++) {
            check.due("reader(" + r + ", 0)", x.reader(r, 0), periods[r]);
            check.due("reader(" + r + ", 1)", x.reader(r, 1), lefts[r]);
        }
    }

    private static void compositorsAtMost() {
        check.sentence("Ck a COMPOSITOR (3 at most)");
        for (int n = 0; n <= 3; n++) {
            String parts = "C3".repeat(n);
            fault("Ea/a" + parts, NONE);
            check.due("compositors", Check.columnOf(1, parts).about(0), n);
        }
        fault("Ea/aC0C0C0C", 10);
        fault("Ea/aC0C0C0C0", 10);
        fault("Ea/aC0C0C0R10C0", 13);
    }

    private static void kinds() {
        check.sentence("of KIND k (0 PLAIN, 1 CARELESS, 2 PROUD, 3 HASTY)");
        fault("Ea/aC/", 5);
        for (int k = 0; k <= 3; k++) {
            fault("Ea/aC" + k, NONE);
            check.due("kind(0)", Check.columnOf(1, "C" + k).kind(0), k);
        }
        fault("Ea/aC4", 5);
        fault("Ea/aC9", 5);
    }

    private static void readersAtMost() {
        check.sentence("Rpf a READER (4 at most)");
        for (int n = 0; n <= 4; n++) {
            String parts = "R43".repeat(n);
            fault("Ea/a" + parts, NONE);
            check.due("readers", Check.columnOf(1, parts).about(1), n);
        }
        fault("Ea/aR10R10R10R10R", 16);
        fault("Ea/aR10R10R10R10R10", 16);
        fault("Ea/aR10R10R10R10C0R10", 18);
    }

    private static void periods() {
        check.sentence("reads on DAYS that leave f by p (p 1 .. 4, f less than p)");
        for (char p = '/'; p <= '9'; p++) {
            for (char f = '/'; f <= '9'; f++) {
                boolean periodIsFine = p >= '1' && p <= '4';
                boolean leftIsFine = f >= '0' && f < p;
                fault("Ea/aR" + p + f, !periodIsFine ? 5 : !leftIsFine ? 6 : NONE);
            }
        }
        check.due("p", Check.columnOf(1, "R43").reader(0, 0), 4);
        check.due("f", Check.columnOf(1, "R43").reader(0, 1), 3);
    }

    /** Each place a text can stand at, the bytes that go on from there, and whether it is at its end with one of them. */
    private static void everyByteEverywhere() {
        check.sentence("FAULT: the place of the first byte by which THE TEXT can be no PAPER");
        next("", "E", false);
        next("E", "abcd", false);
        next("Ea", "abcd/", false);
        next("Eabcd", "abcd/", false);
        next("Eabcda", "/", false);
        next("Ea/", "abcd", true);
        next("Eab/", "abcd", false);
        next("Eab/a", "abcd", true);
        next("Eabcda/dcba", "abcd", true);
        next("Ea/a", "CR", false);
        next("Eabcda/dcbab", "CR", false);
        next("Ea/aC", "0123", true);
        next("Ea/aR", "1234", false);
        next("Ea/aR1", "0", true);
        next("Ea/aR2", "01", true);
        next("Ea/aR3", "012", true);
        next("Ea/aR4", "0123", true);
        next("Ea/aC0C1", "CR", false);
        next("Ea/aC0C1C2", "R", false);
        next("Ea/aR10R20R30", "CR", false);
        next("Ea/aR10R20R30R40", "C", false);
        next(LONGEST, "", false);
    }

    private static void next(String start, String goesOn, boolean atItsEnd) {
        for (int b = 0; b <= 255; b++) {
            String text = start + (char) b;
            boolean taken = goesOn.indexOf(b) >= 0;
            fault(text, !taken ? start.length() : atItsEnd ? NONE : text.length());
        }
    }

    private static void whateverCameBehind() {
        check.sentence("can be no PAPER, whatever came behind it");
        fault("eEa/a", 0);
        fault("Ee/a", 1);
        fault("Ea/eC0R10", 3);
        fault("Ea/aaC0R10", 4);
        fault("Ea/aXC0R10", 4);
        fault("Ea/aC4C0", 5);
        fault("Ea/aR0R10", 5);
        fault("Ea/aR22R10", 6);
        fault("Ea/aC4R50", 5);
    }

    private static void lengthSetAside() {
        check.sentence("(its length set aside)");
        fault(LONGEST + "C0C0C0C0C0", 30);
        fault("X".repeat(40), 0);
        fault("Ea/a" + "X".repeat(36), 4);
        fault("Ea/aC0C0C0R10R10R10R43" + "R".repeat(18), 22);
    }

    private static void onlyNotAtItsEnd() {
        check.sentence("its length, if it is only not at its end");
        String ends = " 12 14 16 18 21 24 27 30 ";
        for (int n = 0; n <= LONGEST.length(); n++) {
            fault(LONGEST.substring(0, n), ends.contains(" " + n + " ") ? NONE : n);
        }
    }

    private static void noFault() {
        check.sentence("NONE: none");
        check.due("shortest", Check.written("Ea/a").fault(), -9);
        check.due("longest", Check.written(LONGEST).fault(), -9);
    }

    private static void atFirst() {
        check.sentence("At first TRUTH, SAID are a, there is nobody");
        ErrataColumn x = new ErrataColumn();
        int[] due = {0, 0, 1, 0, 0, 1, 0, 0, 0, 0, 0};
        for (int what = 0; what < due.length; what++) {
            check.due("about(" + what + ")", x.about(what), due[what]);
        }
        check.due("kind(0)", x.kind(0), UNKNOWN);
        check.due("reader(0, 0)", x.reader(0, 0), UNKNOWN);
        check.due("quiet()", x.quiet(), 1);
    }

    private static void madeAnew() {
        check.sentence("When THE PAPER is made anew, all READERS believe SAID, THE DAY is 0");
        ErrataColumn x = Check.column("Eab/bcC0R10R10R10R10");
        x.print(0, 0, 3);
        check.due("the day", x.about(6), 1);
        x.paper();
        check.due("the day", x.about(6), 0);
        for (int r = 0; r < 4; r++) {
            check.due("reader(" + r + ", 2)", x.reader(r, 2), 12);
        }
        check.due("truth is not what they believe", x.about(8), 0);
    }

    // ---- Promises

    private static void promiseWrite() {
        check.sentence("A byte (0 .. 255) comes behind THE TEXT: how long it is. BAD; FULL: there are 40.");
        ErrataColumn x = new ErrataColumn();
        int[] bad = {-1, 256, 'E' + 256, 'E' - 256, LEAST, MOST};
        for (int b : bad) {
            check.due("write(" + b + ")", x.write(b), BAD);
        }
        check.due("write(0)", x.write(0), 1);
        check.due("write(255)", x.write(255), 2);
        for (int i = 3; i <= 40; i++) {
            check.due("write, " + i, x.write('E'), i);
        }
        check.due("write, 41", x.write('E'), FULL);
        check.due("write(0), 41", x.write(0), FULL);
        check.due("write(255), 41", x.write(255), FULL);
        for (int b : bad) {
            check.due("BAD is told ahead of FULL: " + b, x.write(b), BAD);
        }
        x.wipe();
        check.due("write behind wipe", x.write('E'), 1);
    }

    private static void promiseWipe() {
        check.sentence("THE TEXT is empty: how long it was");
        ErrataColumn x = new ErrataColumn();
        check.due("an empty one", x.wipe(), 0);
        Check.rewrite(x, "E");
        check.due("one byte", x.wipe(), 1);
        check.due("it is empty", x.about(10), 0);
        check.due("its fault", x.fault(), 0);
        Check.rewrite(x, "a".repeat(41));
        check.due("a full one", x.wipe(), 40);
        check.due("wiped", x.wipe(), 0);
        Check.rewrite(x, "Ea/b");
        x.paper();
        x.wipe();
        check.due("the paper is as it was", x.about(4), 1);
    }

    private static void promiseFault() {
        check.sentence("FAULT; NONE");
        check.due("an empty text", new ErrataColumn().fault(), 0);
        check.due("a paper", Check.written("Ea/a").fault(), NONE);
        check.due("a fault", Check.written("Ea/aa").fault(), 4);
        ErrataColumn x = Check.written("Ea/");
        check.due("twice", x.fault(), 3);
        check.due("twice", x.fault(), 3);
        x.write('d');
        check.due("gone on", x.fault(), NONE);
    }

    private static void promisePaper() {
        check.sentence("10 times COMPOSITORS, and READERS. LATE: a FAULT.");
        for (int c = 0; c <= 3; c++) {
            for (int r = 0; r <= 4; r++) {
                check.due("paper()", Check.written("Ea/a" + "C1".repeat(c) + "R10".repeat(r)).paper(), 10 * c + r);
            }
        }
        check.due("an empty text", new ErrataColumn().paper(), LATE);
        check.due("a wrong byte", Check.written("X").paper(), LATE);
        check.due("not at its end", Check.written("Ea/").paper(), LATE);
        check.due("a byte too many", Check.written(LONGEST + "C").paper(), LATE);
    }

    private static void paperForgets() {
        check.sentence("THE TEXT is THE PAPER (no ACTS; what was kept is gone; THE SEED stays)");
        ErrataColumn x = Check.column("Eab/baC1R21");
        x.keep(0);
        x.keep(1);
        x.print(0, 0, 0);
        x.seed(77);
        x.paper();
        check.due("acts", x.about(9), 0);
        check.due("undo()", x.undo(), LATE);
        check.due("again(0)", x.again(0), LATE);
        check.due("again(1)", x.again(1), LATE);
        check.due("the seed", x.seed(0), 77);
        check.due("the text stays", x.about(10), 11);
        Check.rewrite(x, "Ea/a");
        check.due("not the paper yet", x.about(2), 2);
        x.paper();
        check.due("the paper now", x.about(2), 1);
        check.due("nobody is left", x.about(0) + x.about(1), 0);
    }

    /** Behind any paper with any acts the next one is as in a new object: all that can be asked is alike. */
    private static void paperAsNew() {
        check.sentence("THE TEXT is THE PAPER");
        String[] papers = {"Ea/a", "Ea/bC1R10", "Eab/baC3C2R21R20R10", "Eabc/abdR10R10R10R10", "Eabcd/dcbaC1C2C3", LONGEST};
        for (String old : papers) {
            for (String paper : papers) {
                ErrataColumn x = Check.column(old);
                x.print(0, 0, 3);
                x.learn(0, 0);
                x.tell(1, 0);
                x.keep(1);
                x.rests(0, 0, 0, 0, 0);
                x.share(0, true);
                x.allRighted(0);
                x.code(1);
                Check.rewrite(x, paper);
                x.paper();
                check.holds(paper + " behind " + old, Everything.of(x).equals(Everything.of(Check.column(paper))));
            }
        }
    }

    private static void promiseAbout() {
        check.sentence("COMPOSITORS (what = 0) .. bytes of THE TEXT (10). BAD.");
        ErrataColumn x = Check.column("Edcb/dbbC0C3R10R21R20R42");
        int[] due = {2, 4, 3, 321, 311, 2, 0, 5, 0, 0, 24};
        for (int what = 0; what < due.length; what++) {
            check.due("about(" + what + ")", x.about(what), due[what]);
        }
        int[] bad = {-1, 11, LEAST, MOST};
        for (int what : bad) {
            check.due("about(" + what + ")", x.about(what), BAD);
        }
    }

    private static void aboutAtItsEnds() {
        check.sentence("RIGHT of a NAME: at how many PLACES it is as TRUTH .. READERS (bits)");
        ErrataColumn x = Check.column("Eabcda/bcdabC0R10R20R30R40");
        check.due("right nowhere", x.about(5), 0);
        check.due("all read", x.about(7), 15);
        check.due("nobody believes truth", x.about(8), 0);
        x = Check.column("Eabcda/abcdaR21R31R41R43");
        check.due("right everywhere", x.about(5), 5);
        check.due("nobody reads", x.about(7), 0);
        check.due("all believe truth", x.about(8), 15);
        x.quiet();
        check.due("all but the last read", x.about(7), 7);
        for (int place = 0; place < 5; place++) {
            StringBuilder said = new StringBuilder("bbbbb");
            said.setCharAt(place, 'a');
            check.due("right at " + place, Check.column("Eaaaaa/" + said).about(5), 1);
        }
    }

    private static void promiseKind() {
        check.sentence("KIND of a COMPOSITOR. UNKNOWN.");
        for (int n = 0; n <= 3; n++) {
            ErrataColumn x = Check.columnOf(1, "C2".repeat(n));
            check.due("kind(-1)", x.kind(-1), UNKNOWN);
            check.due("the last one of " + n, x.kind(n - 1), n == 0 ? UNKNOWN : 2);
            check.due("one more than " + n, x.kind(n), UNKNOWN);
            check.due("kind(MIN)", x.kind(LEAST), UNKNOWN);
            check.due("kind(MAX)", x.kind(MOST), UNKNOWN);
        }
        ErrataColumn x = Check.columnOf(1, "C1C2C3");
        Check.rewrite(x, "Ea/aC0");
        x.paper();
        check.due("one of a paper before", x.kind(1), UNKNOWN);
    }

    private static void promiseReader() {
        check.sentence("Of a READER p (what = 0), f (1), what it believes (2), RIGHT of that (3). UNKNOWN; BAD.");
        for (int n = 0; n <= 4; n++) {
            ErrataColumn x = Check.columnOf(1, "R32".repeat(n));
            check.due("reader(-1, 0)", x.reader(-1, 0), UNKNOWN);
            check.due("the last one of " + n, x.reader(n - 1, 0), n == 0 ? UNKNOWN : 3);
            check.due("one more than " + n, x.reader(n, 0), UNKNOWN);
            check.due("reader(MIN, 0)", x.reader(LEAST, 0), UNKNOWN);
            check.due("reader(MAX, 0)", x.reader(MOST, 0), UNKNOWN);
            check.due("UNKNOWN is told ahead of BAD", x.reader(n, 4), UNKNOWN);
            check.due("UNKNOWN is told ahead of BAD", x.reader(-1, -1), UNKNOWN);
        }
        ErrataColumn x = Check.column("Eabd/aadR43");
        int[] due = {4, 3, 3, 2};
        for (int what = 0; what < due.length; what++) {
            check.due("reader(0, " + what + ")", x.reader(0, what), due[what]);
        }
        int[] bad = {-1, 4, LEAST, MOST};
        for (int what : bad) {
            check.due("reader(0, " + what + ")", x.reader(0, what), BAD);
        }
    }
}
