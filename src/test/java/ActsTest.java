/** Promises 9 to 13, 27 and 28: acts, their undoing, and slots. */
public final class ActsTest {
    private static final Check check = new Check("ActsTest");

    public static void main(String[] args) {
        print();
        quiet();
        tell();
        learn();
        undo();
        fourteenActs();
        keep();
        again();
        check.end();
    }

    private static void print() {
        String paper = "Eaaaaa/abcdbC0C1C2R10R21";
        check.due("9: plain", Check.column(paper).print(0, 1, 3), 3231);
        check.due("9: careless", Check.column(paper).print(1, 1, 3), 3331);
        check.due("9: careless, 0 behind 3", Check.column(paper).print(1, 2, 2), 1201);
        check.due("9: careless, round the end", Check.column(paper).print(1, 4, 2), 11232);
        check.due("9: proud", Check.column(paper).print(2, 1, 2), 3231);
        check.due("9: proud, 0 behind 3", Check.column(paper).print(2, 1, 3), 231);
        String hasty = "Eaaaaa/abcdbC3";
        check.due("9: hasty", Check.column(hasty).print(0, 1, 3), 2331);
        check.due("9: hasty, round the end", Check.column(hasty).print(0, 4, 2), 21230);
        check.due("9: careless, one place", Check.column("Ea/cC1").print(0, 0, 3), 0);
        check.due("9: hasty, one place", Check.column("Ea/cC3").print(0, 0, 3), 3);
        ErrataColumn x = Check.column(paper);
        check.due("9: unknown", x.print(3, 0, 0), ErrataColumn.UNKNOWN);
        check.due("9: unknown is told first", x.print(-1, 5, 4), ErrataColumn.UNKNOWN);
        check.due("9: place", x.print(0, 5, 0), ErrataColumn.BAD);
        check.due("9: place", x.print(0, -1, 0), ErrataColumn.BAD);
        check.due("9: letter", x.print(0, 0, 4), ErrataColumn.BAD);
        check.due("9: letter", x.print(0, 0, -1), ErrataColumn.BAD);
        check.due("9: refused, no act", x.about(9), 0);
        check.due("9: refused, no day", x.about(6), 0);
        x.print(0, 0, 2);
        check.due("9: who reads on day 0", x.reader(0, 2), 21231);
        check.due("9: who does not", x.reader(1, 2), 1231);
        x.print(0, 1, 0);
        check.due("9: who read both", x.reader(0, 2), 20231);
        check.due("9: a notice is done on what one believes", x.reader(1, 2), 231);
        check.due("9: the day", x.about(6), 2);
    }

    private static void quiet() {
        ErrataColumn x = Check.column("Ea/bC0R10");
        check.due("10: quiet()", x.quiet(), 1);
        check.due("10: quiet()", x.quiet(), 2);
        check.due("10: said", x.about(4), 1);
        check.due("10: belief", x.reader(0, 2), 1);
        check.due("10: acts", x.about(9), 2);
    }

    private static void tell() {
        ErrataColumn x = Check.column("Ea/bC0R10R21");
        check.due("11: they believe one name", x.tell(0, 1), ErrataColumn.LATE);
        check.due("11: both are one", x.tell(1, 1), ErrataColumn.BAD);
        check.due("11: no such reader", x.tell(2, 0), ErrataColumn.UNKNOWN);
        check.due("11: no such other", x.tell(0, 2), ErrataColumn.UNKNOWN);
        check.due("11: unknown is told first", x.tell(-1, -1), ErrataColumn.UNKNOWN);
        check.due("11: refused, no act", x.about(9), 0);
        x.print(0, 0, 3);
        check.due("11: tell(1, 0)", x.tell(1, 0), 3);
        check.due("11: the one told", x.reader(1, 2), 3);
        check.due("11: the one that tells", x.reader(0, 2), 3);
        check.due("11: the day stays", x.about(6), 1);
        check.due("11: acts", x.about(9), 2);
        check.due("11: again", x.tell(1, 0), ErrataColumn.LATE);
        x.undo();
        check.due("11: tell(0, 1)", x.tell(0, 1), 1);
    }

    private static void learn() {
        ErrataColumn x = Check.column("Eaa/bbC0C3");
        check.due("12: learn(0, 2)", x.learn(0, 2), 0);
        check.due("12: kind(0)", x.kind(0), 2);
        check.due("12: it is that", x.learn(0, 2), ErrataColumn.LATE);
        check.due("12: kind", x.learn(0, 4), ErrataColumn.BAD);
        check.due("12: kind", x.learn(0, -1), ErrataColumn.BAD);
        check.due("12: unknown is told first", x.learn(2, 4), ErrataColumn.UNKNOWN);
        check.due("12: unknown", x.learn(-1, 0), ErrataColumn.UNKNOWN);
        check.due("12: acts", x.about(9), 1);
        check.due("12: the day stays", x.about(6), 0);
        check.due("12: the other one", x.kind(1), 3);
        check.due("12: it slips so now", x.print(0, 0, 2), 31);
    }

    private static void undo() {
        ErrataColumn x = Check.column("Eaa/bcC0C3R10R20R21");
        check.due("13: none", x.undo(), ErrataColumn.LATE);
        x.print(0, 0, 3);
        x.tell(2, 0);
        x.learn(1, 1);
        x.quiet();
        x.seed(5);
        x.keep(1);
        check.due("13: quiet undone", x.undo(), 3);
        check.due("13: the day", x.about(6), 1);
        check.due("13: learnt stays yet", x.kind(1), 1);
        check.due("13: learnt undone", x.undo(), 2);
        check.due("13: kind(1)", x.kind(1), 3);
        check.due("13: told stays yet", x.reader(2, 2), 32);
        check.due("13: told undone", x.undo(), 1);
        check.due("13: belief", x.reader(2, 2), 12);
        check.due("13: printed undone", x.undo(), 0);
        check.due("13: said", x.about(4), 12);
        check.due("13: belief", x.reader(0, 2), 12);
        check.due("13: belief", x.reader(1, 2), 12);
        check.due("13: the day", x.about(6), 0);
        check.due("13: none is left", x.undo(), ErrataColumn.LATE);
        check.due("13: the seed is no act", x.seed(0), 5);
        check.due("13: a slot is no act", x.again(1), 2);
    }

    private static void fourteenActs() {
        ErrataColumn x = Check.column("Eaa/aaC0R10");
        for (int i = 0; i < 20; i++) {
            x.print(0, i % 2, i % 4);
            check.due("13: acts", x.about(9), Math.min(14, i + 1));
        }
        for (int left = 13; left >= 0; left--) {
            check.due("13: undo()", x.undo(), left);
            check.due("13: the day", x.about(6), 6 + left);
        }
        check.due("13: the first ones are forgotten", x.undo(), ErrataColumn.LATE);
        check.due("13: said of day 6", x.about(4), 1);
        check.due("13: belief of day 6", x.reader(0, 2), 1);
        for (int i = 0; i < 3; i++) {
            x.quiet();
        }
        check.due("13: acts go on", x.undo(), 2);
        check.due("13: the day", x.about(6), 8);
    }

    private static void keep() {
        ErrataColumn x = Check.column("Eaa/aaC0R10");
        check.due("27: slot", x.keep(-1), ErrataColumn.UNKNOWN);
        check.due("27: slot", x.keep(2), ErrataColumn.UNKNOWN);
        x.quiet();
        check.due("27: keep(0)", x.keep(0), 1);
        check.due("27: acts stay", x.about(9), 1);
        check.due("27: each slot for itself", x.again(1), ErrataColumn.LATE);
        x.quiet();
        check.due("27: keep(1)", x.keep(1), 2);
        x.quiet();
        check.due("27: keep(0), anew", x.keep(0), 3);
        check.due("27: again(1)", x.again(1), 2);
        check.due("27: again(0)", x.again(0), 3);
    }

    private static void again() {
        ErrataColumn x = Check.column("Eaa/bcC0C2R10R21");
        check.due("28: none kept", x.again(0), ErrataColumn.LATE);
        check.due("28: slot", x.again(2), ErrataColumn.UNKNOWN);
        check.due("28: slot", x.again(-1), ErrataColumn.UNKNOWN);
        x.print(0, 0, 0);
        x.learn(1, 3);
        check.due("28: keep(0)", x.keep(0), 1);
        x.print(1, 1, 1);
        x.learn(0, 1);
        x.seed(8);
        check.due("28: refused, acts stay", x.again(1) + x.about(9), ErrataColumn.LATE + 4);
        check.due("28: again(0)", x.again(0), 1);
        check.due("28: said", x.about(4), 2);
        check.due("28: belief", x.reader(0, 2), 2);
        check.due("28: belief", x.reader(1, 2), 12);
        check.due("28: kind(0)", x.kind(0), 0);
        check.due("28: kind(1)", x.kind(1), 3);
        check.due("28: the day", x.about(6), 1);
        check.due("28: no acts", x.about(9), 0);
        check.due("28: nothing to undo", x.undo(), ErrataColumn.LATE);
        check.due("28: the seed stays", x.seed(0), 8);
        x.quiet();
        check.due("28: it can be gone on from twice", x.again(0), 1);
    }
}
