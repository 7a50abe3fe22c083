/** The edges of notices, acts, their undoing and slots: Terms, parts 1 and 3, and promises 9 to 13, 27 and 28. */
public final class ActsEdgesTest {
    private static final int UNKNOWN = ErrataColumn.UNKNOWN, BAD = ErrataColumn.BAD, LATE = ErrataColumn.LATE;
    private static final int LEAST = Integer.MIN_VALUE, MOST = Integer.MAX_VALUE;
    private static final int[] TENS = {1, 10, 100, 1000, 10000};
    private static final Check check = new Check("ActsEdgesTest");

    public static void main(String[] args) {
        places();
        behindTheLast();
        onePlaceAlone();
        behindThree();
        whoReadsOnTheDay();
        beliefsLikewise();
        dayIsOneMore();
        promisePrint();
        promiseQuiet();
        promiseTell();
        promiseLearn();
        lettersOfNotices();
        fourteenActs();
        allFourAreActs();
        firstIsForgotten();
        promiseUndo();
        undoneWholly();
        promiseKeep();
        promiseAgain();
        slotsKeep();
        check.end();
    }

    // ---- notices

    private static void places() {
        check.sentence("PLACES are 0 .. L less 1");
        for (int l = 1; l <= 5; l++) {
            ErrataColumn x = Check.columnOf(l, "C0");
            check.due("place -1 of " + l, x.print(0, -1, 3), BAD);
            check.due("place 0 of " + l, x.print(0, 0, 1), TENS[l - 1]);
            check.due("the last place of " + l, x.print(0, l - 1, 1), l == 1 ? 1 : TENS[l - 1] + 1);
            check.due("the place behind of " + l, x.print(0, l, 3), BAD);
        }
    }

    private static void behindTheLast() {
        check.sentence("the one behind the last is 0");
        for (int l = 2; l <= 5; l++) {
            int first = TENS[l - 1];
            check.due("careless, " + l, Check.columnOf(l, "C1").print(0, l - 1, 2), first + 2);
            check.due("hasty, " + l, Check.columnOf(l, "C3").print(0, l - 1, 2), 2 * first);
            check.due("careless, the last but one, " + l, Check.columnOf(l, "C1").print(0, l - 2, 2), 21);
            check.due("hasty, the last but one, " + l, Check.columnOf(l, "C3").print(0, l - 2, 2), 2);
        }
    }

    private static void onePlaceAlone() {
        check.sentence("at p there is x; then by KIND (the next PLACE of the only one is that one)");
        for (int letter = 0; letter <= 3; letter++) {
            check.due("plain", Check.column("Ea/cC0").print(0, 0, letter), letter);
            check.due("careless", Check.column("Ea/cC1").print(0, 0, letter), (letter + 1) % 4);
            check.due("proud", Check.column("Ea/cC2").print(0, 0, letter), (letter + 1) % 4);
            check.due("hasty", Check.column("Ea/cC3").print(0, 0, letter), letter);
        }
    }

    private static void behindThree() {
        check.sentence("the next LETTER (0 behind 3)");
        String letters = "abcd";
        for (int letter = 0; letter <= 3; letter++) {
            int next = letter == 3 ? 0 : letter + 1;
            String said = "Eaa/a" + letters.charAt(letter);
            check.due("careless, of " + letter, Check.column(said + "C1").print(0, 0, 0), next);
            check.due("proud, behind " + letter, Check.column(said + "C2").print(0, 1, letter), next);
        }
        check.due("careless, no other place slips", Check.column("Eaaa/dddC1").print(0, 1, 3), 330);
        check.due("proud, no other place slips", Check.column("Eaaa/dddC2").print(0, 1, 3), 303);
        check.due("careless, of what was there", Check.column("Eaaa/dddC1").print(0, 2, 1), 31);
    }

    // ---- who reads, and when

    private static void whoReadsOnTheDay() {
        check.sentence("a READER that reads on DAYS that leave f by p");
        String[] groups = {"R10R20R21R30", "R31R32R40R41", "R42R43R10R21"};
        int[][] days = {{1, 0, 2, 0, 2, 1, 3, 0}, {3, 1, 3, 2, 4, 0, 4, 1}, {4, 2, 4, 3, 1, 0, 2, 1}};
        for (int g = 0; g < groups.length; g++) {
            ErrataColumn x = Check.columnOf(1, "C0" + groups[g]);
            int[] beliefs = new int[4];
            for (int day = 0; day <= 24; day++) {
                int letter = 1 + day % 3;
                int bits = 0;
                for (int r = 0; r < 4; r++) {
                    if (day % days[g][2 * r] == days[g][2 * r + 1]) {
                        bits += 1 << r;
                        beliefs[r] = letter;
                    }
                }
                check.due("about(7) on day " + day, x.about(7), bits);
                x.print(0, 0, letter);
                for (int r = 0; r < 4; r++) {
                    check.due("reader(" + r + ", 2) behind day " + day, x.reader(r, 2), beliefs[r]);
                }
            }
        }
    }

    private static void beliefsLikewise() {
        check.sentence("PRINTED: a NOTICE makes of SAID what it does; of what READERS that read on THE DAY believe likewise");
        ErrataColumn x = Check.column("Eaaa/aaaC1C3R21R20");
        check.due("careless on said", x.print(0, 0, 2), 210);
        check.due("who does not read", x.reader(0, 2), 0);
        check.due("who reads", x.reader(1, 2), 210);
        check.due("hasty on said", x.print(1, 0, 3), 130);
        check.due("hasty on another belief", x.reader(0, 2), 30);
        check.due("who does not read", x.reader(1, 2), 210);
    }

    private static void dayIsOneMore() {
        check.sentence("THE DAY is one more. QUIET: THE DAY is one more");
        ErrataColumn x = Check.column("Ea/aC0R10R21");
        x.print(0, 0, 1);
        check.due("printed", x.about(6), 1);
        x.quiet();
        check.due("quiet", x.about(6), 2);
        x.tell(0, 1);
        check.due("told", x.about(6), 2);
        x.learn(0, 1);
        check.due("learnt", x.about(6), 2);
        check.due("a notice that changes nothing is printed too", Check.column("Ea/aC0").print(0, 0, 0), 0);
        x = Check.column("Ea/aC0");
        x.print(0, 0, 0);
        check.due("its day", x.about(6), 1);
        check.due("its act", x.about(9), 1);
    }

    // ---- promises of acts

    private static void promisePrint() {
        check.sentence("PRINTED: SAID then. UNKNOWN; BAD: place, letter.");
        for (int n = 0; n <= 3; n++) {
            ErrataColumn x = Check.columnOf(3, "C0".repeat(n));
            int[] unknown = {-1, n, LEAST, MOST};
            for (int c : unknown) {
                check.due("print(" + c + ", 0, 0)", x.print(c, 0, 0), UNKNOWN);
                check.due("UNKNOWN is told ahead of BAD, place", x.print(c, 3, 0), UNKNOWN);
                check.due("UNKNOWN is told ahead of BAD, letter", x.print(c, 0, 4), UNKNOWN);
            }
            check.due("the last one of " + n, x.print(n - 1, 2, 3), n == 0 ? UNKNOWN : 3);
        }
        ErrataColumn x = Check.columnOf(3, "C0");
        int[] places = {-1, 3, LEAST, MOST};
        for (int place : places) {
            check.due("place " + place, x.print(0, place, 0), BAD);
        }
        int[] letters = {-1, 4, LEAST, MOST};
        for (int letter : letters) {
            check.due("letter " + letter, x.print(0, 0, letter), BAD);
        }
        check.due("place and letter", x.print(0, 3, 4), BAD);
        check.due("no act", x.about(9), 0);
    }

    private static void lettersOfNotices() {
        check.sentence("A NOTICE of a COMPOSITOR for a PLACE p and a LETTER x (LETTERS 0 .. 3)");
        ErrataColumn x = Check.columnOf(1, "C0");
        for (int letter = 0; letter <= 3; letter++) {
            check.due("letter " + letter, x.print(0, 0, letter), letter);
        }
        check.due("letter 4", x.print(0, 0, 4), BAD);
        check.due("letter -1", x.print(0, 0, -1), BAD);
    }

    private static void promiseQuiet() {
        check.sentence("QUIET: THE DAY then");
        ErrataColumn x = new ErrataColumn();
        check.due("with nobody there", x.quiet(), 1);
        x = Check.column("Eab/baC1R10");
        check.due("quiet()", x.quiet(), 1);
        check.due("said", x.about(4), 10);
        check.due("belief of one that reads on it", x.reader(0, 2), 10);
    }

    private static void promiseTell() {
        check.sentence("TOLD: what it believes then. UNKNOWN: reader, other; BAD: both are one; LATE: they believe one NAME.");
        for (int n = 0; n <= 4; n++) {
            ErrataColumn x = Check.columnOf(1, "R10".repeat(n));
            int[] unknown = {-1, n, LEAST, MOST};
            for (int r : unknown) {
                check.due("tell(" + r + ", 0)", x.tell(r, 0), UNKNOWN);
                check.due("tell(0, " + r + ")", x.tell(0, r), UNKNOWN);
                check.due("UNKNOWN is told ahead of BAD", x.tell(r, r), UNKNOWN);
            }
            if (n > 0) {
                check.due("BAD is told ahead of LATE", x.tell(n - 1, n - 1), BAD);
            }
            if (n > 1) {
                check.due("they believe one name", x.tell(n - 1, 0), LATE);
                check.due("they believe one name", x.tell(0, n - 1), LATE);
            }
        }
        ErrataColumn x = Check.columnOf(2, "C0R10R21R21R21");
        x.print(0, 0, 3);
        check.due("the last one is told", x.tell(3, 0), 30);
        check.due("it believes so", x.reader(3, 2), 30);
        check.due("they believe one name now", x.tell(3, 0), LATE);
        check.due("the other way too", x.tell(0, 3), LATE);
        check.due("the first one is told", x.tell(0, 2), 0);
        check.due("the one that told believes as it did", x.reader(2, 2), 0);
        check.due("said", x.about(4), 30);
    }

    private static void promiseLearn() {
        check.sentence("LEARNT: the KIND it was. UNKNOWN; BAD: kind; LATE: it is that.");
        for (int n = 0; n <= 3; n++) {
            ErrataColumn x = Check.columnOf(1, "C0".repeat(n));
            int[] unknown = {-1, n, LEAST, MOST};
            for (int c : unknown) {
                check.due("learn(" + c + ", 1)", x.learn(c, 1), UNKNOWN);
                check.due("UNKNOWN is told ahead of BAD", x.learn(c, 4), UNKNOWN);
                check.due("UNKNOWN is told ahead of LATE", x.learn(c, 0), UNKNOWN);
            }
            check.due("the last one of " + n, x.learn(n - 1, 3), n == 0 ? UNKNOWN : 0);
        }
        ErrataColumn x = Check.columnOf(1, "C2");
        int[] kinds = {-1, 4, LEAST, MOST};
        for (int kind : kinds) {
            check.due("learn(0, " + kind + ")", x.learn(0, kind), BAD);
        }
        int was = 2;
        for (int kind = 0; kind <= 3; kind++) {
            check.due("learn(0, " + kind + ")", x.learn(0, kind), was);
            check.due("it is that", x.learn(0, kind), LATE);
            check.due("kind(0)", x.kind(0), kind);
            was = kind;
        }
    }

    // ---- the row of acts

    private static void fourteenActs() {
        check.sentence("ACTS are a row (14 at most)");
        for (int n = 13; n <= 15; n++) {
            ErrataColumn x = new ErrataColumn();
            for (int i = 0; i < n; i++) {
                x.quiet();
            }
            int held = Math.min(n, 14);
            check.due("about(9) behind " + n, x.about(9), held);
            for (int left = held - 1; left >= 0; left--) {
                check.due("undo() behind " + n, x.undo(), left);
                check.due("about(9)", x.about(9), left);
            }
            check.due("no more", x.undo(), LATE);
            check.due("the day behind " + n, x.about(6), n - held);
        }
    }

    private static void allFourAreActs() {
        check.sentence("ACTS (PRINTED, QUIET, TOLD, LEARNT)");
        ErrataColumn x = Check.columnOf(2, "C0R10R21");
        x.print(0, 0, 3);
        check.due("printed", x.about(9), 1);
        x.quiet();
        check.due("quiet", x.about(9), 2);
        x.tell(1, 0);
        check.due("told", x.about(9), 3);
        x.learn(0, 3);
        check.due("learnt", x.about(9), 4);
        x.keep(0);
        x.seed(3);
        x.years(2);
        x.write('E');
        x.wipe();
        check.due("nothing else is", x.about(9), 4);
    }

    /** Each kind of act comes as the fifteenth, so that a printed one with all it changed is the one forgotten. */
    private static void firstIsForgotten() {
        check.sentence("when it is full, the first one is forgotten");
        for (int last = 0; last < 4; last++) {
            ErrataColumn x = Check.columnOf(2, "C0R10R10R41");
            x.print(0, 0, 3);
            for (int i = 0; i < 13; i++) {
                x.quiet();
            }
            check.due("full", x.about(9), 14);
            actOf(x, last);
            check.due("full still", x.about(9), 14);
            for (int left = 13; left >= 0; left--) {
                check.due("undo()", x.undo(), left);
            }
            check.due("the first one is forgotten", x.undo(), LATE);
            check.due("said as it made it", x.about(4), 30);
            check.due("belief as it made it", x.reader(0, 2), 30);
            check.due("belief that it left", x.reader(2, 2), 0);
            check.due("the day as it made it", x.about(6), 1);
            check.due("the kind", x.kind(0), 0);
        }
    }

    private static void actOf(ErrataColumn x, int which) {
        switch (which) {
            case 0: check.due("print(0, 1, 2)", x.print(0, 1, 2), 32); break;
            case 1: check.due("quiet()", x.quiet(), 15); break;
            case 2: check.due("tell(1, 2)", x.tell(1, 2), 0); break;
            default: check.due("learn(0, 2)", x.learn(0, 2), 0); break;
        }
    }

    private static void promiseUndo() {
        check.sentence("The last ACT is undone: how many are left. LATE: there is none.");
        ErrataColumn x = new ErrataColumn();
        check.due("a new object", x.undo(), LATE);
        x.quiet();
        check.due("one", x.undo(), 0);
        check.due("none is left", x.undo(), LATE);
        x = Check.columnOf(1, "C0");
        check.due("a new paper", x.undo(), LATE);
        x.keep(0);
        x.quiet();
        x.again(0);
        check.due("gone on from a slot", x.undo(), LATE);
        x.quiet();
        x.quiet();
        x.undo();
        check.due("an act behind one that was undone", x.print(0, 0, 3), 3);
        check.due("that one is undone", x.undo(), 1);
        check.due("said", x.about(4), 0);
        check.due("the one before it", x.undo(), 0);
        check.due("what was undone does not come back", x.undo(), LATE);
        check.due("the day", x.about(6), 0);
    }

    private static void undoneWholly() {
        check.sentence("the last one can be undone");
        ErrataColumn x = Check.column("Eabc/cbaC1C2C3R10R20R30R40");
        x.print(2, 2, 3);
        check.due("said", x.about(4), 312);
        check.due("undo()", x.undo(), 0);
        check.due("said", x.about(4), 210);
        check.due("the day", x.about(6), 0);
        for (int r = 0; r < 4; r++) {
            check.due("reader(" + r + ", 2)", x.reader(r, 2), 210);
        }
        for (int c = 0; c < 3; c++) {
            x.learn(c, 0);
            check.due("undo()", x.undo(), 0);
            check.due("kind(" + c + ")", x.kind(c), c + 1);
        }
    }

    // ---- slots

    private static void promiseKeep() {
        check.sentence("They are kept: THE DAY. UNKNOWN. (SLOTS 0 .. 1)");
        ErrataColumn x = new ErrataColumn();
        int[] unknown = {-1, 2, LEAST, MOST};
        for (int slot : unknown) {
            check.due("keep(" + slot + ")", x.keep(slot), UNKNOWN);
        }
        check.due("none were kept", x.again(0), LATE);
        check.due("none were kept", x.again(1), LATE);
        check.due("keep(0) of a new object", x.keep(0), 0);
        x.quiet();
        check.due("keep(1)", x.keep(1), 1);
        check.due("the act stays", x.about(9), 1);
        check.due("again(0)", x.again(0), 0);
        check.due("again(1)", x.again(1), 1);
        x.quiet();
        check.due("kept over what was kept", x.keep(1), 2);
        check.due("again(1)", x.again(1), 2);
        check.due("the other slot is as it was", x.again(0), 0);
    }

    private static void promiseAgain() {
        check.sentence("They are as they were kept: THE DAY. UNKNOWN; LATE: none were kept.");
        ErrataColumn x = Check.columnOf(2, "C0");
        int[] unknown = {-1, 2, LEAST, MOST};
        for (int slot : unknown) {
            check.due("UNKNOWN is told ahead of LATE: " + slot, x.again(slot), UNKNOWN);
        }
        check.due("again(0)", x.again(0), LATE);
        check.due("again(1)", x.again(1), LATE);
        x.keep(1);
        check.due("the other one was kept", x.again(0), LATE);
        check.due("again(1)", x.again(1), 0);
        x.keep(0);
        for (int slot : unknown) {
            check.due("both were kept: " + slot, x.again(slot), UNKNOWN);
        }
        x.paper();
        check.due("a paper made anew", x.again(0), LATE);
        check.due("a paper made anew", x.again(1), LATE);
    }

    private static void slotsKeep() {
        check.sentence("SLOTS 0 .. 1 keep SAID, what READERS believe, KINDS, THE DAY (no ACTS when one goes on)");
        for (int slot = 0; slot <= 1; slot++) {
            ErrataColumn x = Check.columnOf(2, "C0C1C2R10R10R21R21");
            x.print(0, 0, 3);
            x.learn(2, 0);
            x.keep(slot);
            x.print(0, 1, 2);
            x.tell(0, 3);
            x.tell(3, 1);
            x.learn(0, 3);
            x.learn(2, 1);
            x.seed(9);
            check.due("again", x.again(slot), 1);
            int[] beliefs = {30, 30, 0, 0};
            int[] kinds = {0, 1, 0};
            for (int r = 0; r < 4; r++) {
                check.due("reader(" + r + ", 2)", x.reader(r, 2), beliefs[r]);
            }
            for (int c = 0; c < 3; c++) {
                check.due("kind(" + c + ")", x.kind(c), kinds[c]);
            }
            check.due("said", x.about(4), 30);
            check.due("the day", x.about(6), 1);
            check.due("no acts", x.about(9), 0);
            check.due("nothing to undo", x.undo(), LATE);
            check.due("the seed is not kept", x.seed(0), 9);
            x.quiet();
            check.due("it is kept still", x.again(slot), 1);
        }
    }
}
