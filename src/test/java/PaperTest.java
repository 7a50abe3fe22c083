/** Promises 1 to 8: the text, its fault, the paper and what is told of it. */
public final class PaperTest {
    private static final Check check = new Check("PaperTest");

    public static void main(String[] args) {
        newObject();
        write();
        wipe();
        fault();
        paper();
        about();
        kind();
        reader();
        check.end();
    }

    private static void newObject() {
        ErrataColumn x = new ErrataColumn();
        int[] due = {0, 0, 1, 0, 0, 1, 0, 0, 0, 0, 0};
        for (int what = 0; what < due.length; what++) {
            check.due("1: about(" + what + ")", x.about(what), due[what]);
        }
        check.due("1: kind(0)", x.kind(0), ErrataColumn.UNKNOWN);
        check.due("1: reader(0, 0)", x.reader(0, 0), ErrataColumn.UNKNOWN);
        check.due("1: undo()", x.undo(), ErrataColumn.LATE);
        check.due("1: again(0)", x.again(0), ErrataColumn.LATE);
        check.due("1: again(1)", x.again(1), ErrataColumn.LATE);
        check.due("1: seed(1)", x.seed(1), 0);
    }

    private static void write() {
        ErrataColumn x = new ErrataColumn();
        check.due("2: write(-1)", x.write(-1), ErrataColumn.BAD);
        check.due("2: write(256)", x.write(256), ErrataColumn.BAD);
        check.due("2: about(10)", x.about(10), 0);
        check.due("2: write(0)", x.write(0), 1);
        check.due("2: write(255)", x.write(255), 2);
        for (int i = 3; i <= 40; i++) {
            check.due("2: write", x.write('a'), i);
        }
        check.due("2: write, full", x.write('a'), ErrataColumn.FULL);
        check.due("2: write, bad and full", x.write(256), ErrataColumn.BAD);
        check.due("2: about(10)", x.about(10), 40);
        check.due("2: fault()", x.fault(), 0);
    }

    private static void wipe() {
        ErrataColumn x = new ErrataColumn();
        check.due("3: wipe()", x.wipe(), 0);
        Check.rewrite(x, "Ea/b");
        check.due("3: paper()", x.paper(), 0);
        check.due("3: wipe()", x.wipe(), 4);
        check.due("3: wipe()", x.wipe(), 0);
        check.due("3: about(4), the paper stays", x.about(4), 1);
        check.due("3: fault()", x.fault(), 0);
    }

    private static void fault(String text, int due) {
        ErrataColumn x = new ErrataColumn();
        Check.rewrite(x, text);
        check.due("4: fault() of " + text, x.fault(), due);
        check.due("5: paper() of " + text, x.paper() == ErrataColumn.LATE ? 1 : 0, due == ErrataColumn.NONE ? 0 : 1);
    }

    private static void fault() {
        fault("", 0);
        fault("a", 0);
        fault("e", 0);
        fault("E", 1);
        fault("E/", 1);
        fault("E/a", 1);
        fault("Ee", 1);
        fault("E`", 1);
        fault("EA", 1);
        fault("Ea", 2);
        fault("Eabcda", 6);
        fault("Eabcda/", 7);
        fault("Eabcdaa/", 6);
        fault("Ea/", 3);
        fault("Ea/a", ErrataColumn.NONE);
        fault("Ea/ab", 4);
        fault("Ea/e", 3);
        fault("Ea//", 3);
        fault("Ea/C0", 3);
        fault("Eabcda/dcbab", ErrataColumn.NONE);
        fault("Eabcda/dcba", 11);
        fault("Eabcda/dcbaC", 11);
        fault("Eabcda/dcbabC", 13);
        fault("Ea/aC", 5);
        fault("Ea/aC3", ErrataColumn.NONE);
        fault("Ea/aC4", 5);
        fault("Ea/aC/", 5);
        fault("Ea/aR", 5);
        fault("Ea/aR0", 5);
        fault("Ea/aR5", 5);
        fault("Ea/aR1", 6);
        fault("Ea/aR10", ErrataColumn.NONE);
        fault("Ea/aR11", 6);
        fault("Ea/aR43", ErrataColumn.NONE);
        fault("Ea/aR44", 6);
        fault("Ea/aR32R", 8);
        fault("Ea/aX", 4);
        fault("Ea/aR10C1R10C1R10C1R10", ErrataColumn.NONE);
        fault("Ea/aR10C1R10C1R10C1R10R", 22);
        fault("Ea/aR10C1R10C1R10C1R10C", 22);
        fault("Eabcda/dcbabC0C1C2R10R20R30R40C", 30);
        fault("Eabcda/dcbabC0C1C2R10R20R30R40", ErrataColumn.NONE);
    }

    private static void paper() {
        ErrataColumn x = Check.column("Eab/baC1R21C2");
        check.due("5: paper()", x.paper(), 21);
        check.due("5: about(10), the text stays", x.about(10), 13);
        x.print(0, 0, 0);
        x.learn(0, 3);
        x.keep(0);
        x.seed(77);
        x.write('C');
        check.due("5: paper(), a fault", x.paper(), ErrataColumn.LATE);
        check.due("5: refused, acts stay", x.about(9), 2);
        check.due("5: refused, kept stays", x.again(0), 1);
        check.due("5: refused, kinds stay", x.kind(0), 3);
        Check.rewrite(x, "Eab/baC1R21C2");
        x.quiet();
        check.due("5: paper(), anew", x.paper(), 21);
        check.due("5: the day", x.about(6), 0);
        check.due("5: said", x.about(4), 10);
        check.due("5: no acts", x.about(9), 0);
        check.due("5: kind", x.kind(0), 1);
        check.due("5: belief", x.reader(0, 2), 10);
        check.due("5: what was kept is gone", x.again(0), ErrataColumn.LATE);
        check.due("5: nothing to undo", x.undo(), ErrataColumn.LATE);
        check.due("5: the seed stays", x.seed(0), 77);
        Check.rewrite(x, "Eabc/cba");
        check.due("5: paper(), nobody", x.paper(), 0);
        check.due("5: kind(0)", x.kind(0), ErrataColumn.UNKNOWN);
        check.due("5: reader(0, 2)", x.reader(0, 2), ErrataColumn.UNKNOWN);
    }

    private static void about() {
        ErrataColumn x = Check.column("Edcb/dbbC0C3R10R21R20R42");
        int[] due = {2, 4, 3, 321, 311, 2, 0, 1 + 4, 0, 0, 24};
        for (int what = 0; what < due.length; what++) {
            check.due("6: about(" + what + ")", x.about(what), due[what]);
        }
        check.due("6: about(-1)", x.about(-1), ErrataColumn.BAD);
        check.due("6: about(11)", x.about(11), ErrataColumn.BAD);
        x.print(0, 1, 2);
        check.due("6: about(4)", x.about(4), 321);
        check.due("6: about(5)", x.about(5), 3);
        check.due("6: about(6)", x.about(6), 1);
        check.due("6: about(7)", x.about(7), 1 + 2);
        check.due("6: about(8)", x.about(8), 1 + 4);
        check.due("6: about(9)", x.about(9), 1);
        x.quiet();
        check.due("6: about(7)", x.about(7), 1 + 4 + 8);
        check.due("6: about(9)", x.about(9), 2);
        check.due("6: about(3)", x.about(3), 321);
    }

    private static void kind() {
        ErrataColumn x = Check.column("Ea/aC3C1");
        check.due("7: kind(0)", x.kind(0), 3);
        check.due("7: kind(1)", x.kind(1), 1);
        check.due("7: kind(2)", x.kind(2), ErrataColumn.UNKNOWN);
        check.due("7: kind(-1)", x.kind(-1), ErrataColumn.UNKNOWN);
    }

    private static void reader() {
        ErrataColumn x = Check.column("Eabd/aadR43R10");
        check.due("8: reader(0, 0)", x.reader(0, 0), 4);
        check.due("8: reader(0, 1)", x.reader(0, 1), 3);
        check.due("8: reader(1, 2)", x.reader(1, 2), 3);
        check.due("8: reader(1, 3)", x.reader(1, 3), 2);
        check.due("8: reader(1, 0)", x.reader(1, 0), 1);
        check.due("8: reader(1, 1)", x.reader(1, 1), 0);
        check.due("8: reader(1, 4)", x.reader(1, 4), ErrataColumn.BAD);
        check.due("8: reader(1, -1)", x.reader(1, -1), ErrataColumn.BAD);
        check.due("8: reader(2, 4), unknown is told first", x.reader(2, 4), ErrataColumn.UNKNOWN);
        check.due("8: reader(-1, 0)", x.reader(-1, 0), ErrataColumn.UNKNOWN);
    }
}
