/** Counts answers that are not as due, for the tests beside it. */
final class Check {
    private final String test;
    private int calls = 0;
    private int wrong = 0;

    Check(String test) {
        this.test = test;
    }

    void due(String call, long got, long want) {
        calls++;
        if (got != want) {
            wrong++;
            System.out.println(test + ": " + call + " answered " + got + ", due is " + want);
        }
    }

    void holds(String what, boolean so) {
        due(what, so ? 1 : 0, 1);
    }

    void end() {
        System.out.println(test + ": " + calls + " answers, " + wrong + " wrong");
        if (wrong != 0) {
            System.exit(1);
        }
    }

    static void rewrite(ErrataColumn x, String text) {
        x.wipe();
        for (int i = 0; i < text.length(); i++) {
            x.write(text.charAt(i));
        }
    }

    /** A new object whose paper is the text. */
    static ErrataColumn column(String text) {
        ErrataColumn x = new ErrataColumn();
        rewrite(x, text);
        x.paper();
        return x;
    }
}
