/** Counts answers that are not as due, for the tests beside it. */
final class Check {
    /** An object is used for at most so many calls. */
    static final int MOST_CALLS = 512;

    private final String test;
    private String sentence = "";
    private int sentences = 0;
    private int calls = 0;
    private int wrong = 0;

    Check(String test) {
        this.test = test;
    }

    /** What follows, up to the next sentence, holds the class to these words of the document. */
    void sentence(String words) {
        sentence = " [" + words + "]";
        sentences++;
    }

    void due(String call, long got, long want) {
        calls++;
        if (got != want) {
            wrong++;
            System.out.println(test + sentence + ": " + call + " answered " + got + ", due is " + want);
        }
    }

    void holds(String what, boolean so) {
        due(what, so ? 1 : 0, 1);
    }

    void end() {
        String held = sentences == 0 ? "" : sentences + " sentences, ";
        System.out.println(test + ": " + held + calls + " answers, " + wrong + " wrong");
        if (wrong != 0) {
            System.exit(1);
        }
    }

    static void rewrite(ErrataColumn x, String text) {
        x.wipe();
        for (int i = 0; i < text.length(); i++) {
            x.write(text.charAt(i));
        }
    }

    /** A new object whose text is this one, not yet the paper. */
    static ErrataColumn written(String text) {
        ErrataColumn x = new ErrataColumn();
        rewrite(x, text);
        return x;
    }

    /** A new object whose paper is the text. */
    static ErrataColumn column(String text) {
        ErrataColumn x = written(text);
        x.paper();
        return x;
    }

    /** A paper of so many letters, all a in truth and in what is said, with these parts. */
    static ErrataColumn columnOf(int letters, String parts) {
        String name = "a".repeat(letters);
        return column("E" + name + "/" + name + parts);
    }
}
