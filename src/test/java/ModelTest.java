import java.util.Random;

/** Runs of calls by chance (the same ones each time), each answer against the plain model's. */
public final class ModelTest {
    private static final int RUNS = 1200;
    /** A step makes at most so many calls: a new paper is the longest one. */
    private static final int LONGEST_STEP = 50;
    private static final int LOOKS_FROM = 10;
    private static final int[] ODD_INTS = {-1, -9, 4, 5, 10, 99, 256, 40000, Integer.MAX_VALUE, Integer.MIN_VALUE};
    private static final Check check = new Check("ModelTest");

    private final Random random;
    private final ErrataColumn x = new ErrataColumn();
    private final PlainModel m = new PlainModel();
    private final int run;
    private int used = 0;

    private ModelTest(int run) {
        this.run = run;
        random = new Random(run);
    }

    public static void main(String[] args) {
        for (int run = 0; run < RUNS; run++) {
            new ModelTest(run).go();
        }
        check.end();
    }

    private void go() {
        newPaper();
        while (used + LONGEST_STEP <= Check.MOST_CALLS) {
            if (random.nextInt(60) == 0) {
                newPaper();
            } else {
                call(random.nextInt(27));
            }
        }
        for (int what = 0; used < Check.MOST_CALLS; what++) {
            due("about " + what % 11, x.about(what % 11), m.about(what % 11));
        }
    }

    private void due(String call, long got, long want) {
        used++;
        check.due("run " + run + " " + call, got, want);
    }

    // ---- texts

    private void newPaper() {
        due("wipe", x.wipe(), m.wipe());
        String text = someText();
        for (int i = 0; i < text.length(); i++) {
            due("write", x.write(text.charAt(i)), m.write(text.charAt(i)));
        }
        due("fault of " + text, x.fault(), m.fault());
        due("paper " + text, x.paper(), m.paper());
    }

    private String letters(int n) {
        StringBuilder s = new StringBuilder();
        for (int i = 0; i < n; i++) {
            s.append((char) ('a' + random.nextInt(4)));
        }
        return s.toString();
    }

    private String someText() {
        int l = 1 + random.nextInt(5);
        String truth = letters(l);
        char[] said = random.nextInt(3) == 0 ? letters(l).toCharArray() : truth.toCharArray();
        said[random.nextInt(l)] = (char) ('a' + random.nextInt(4));
        StringBuilder s = new StringBuilder("E").append(truth).append('/').append(said);
        int parts = random.nextInt(8);
        for (int i = 0; i < parts; i++) {
            int p = 1 + random.nextInt(4);
            s.append(random.nextBoolean() ? "C" + random.nextInt(4) : "R" + p + random.nextInt(p));
        }
        if (random.nextInt(6) == 0) {
            String signs = "Eabcd/CR01234eX5";
            s.setCharAt(random.nextInt(s.length()), signs.charAt(random.nextInt(signs.length())));
        }
        if (random.nextInt(8) == 0) {
            s.setLength(random.nextInt(s.length()));
        }
        return s.toString();
    }

    // ---- arguments: mostly such as are fine, now and then one beyond

    private int upTo(int most) {
        return random.nextInt(25) == 0 ? ODD_INTS[random.nextInt(ODD_INTS.length)] : random.nextInt(most + 1);
    }

    private int compositor() {
        return upTo(random.nextInt(8) == 0 ? 3 : Math.max(0, m.about(0) - 1));
    }

    private int reader() {
        return upTo(random.nextInt(8) == 0 ? 4 : Math.max(0, m.about(1) - 1));
    }

    private int place() {
        return upTo(random.nextInt(12) == 0 ? 5 : m.about(2) - 1);
    }

    private int letter() {
        return upTo(random.nextInt(20) == 0 ? 4 : 3);
    }

    private int name() {
        if (random.nextInt(20) == 0) {
            return upTo(100000);
        }
        int name = 0;
        for (int i = 0; i < m.about(2); i++) {
            name = 10 * name + random.nextInt(4);
        }
        return name;
    }

    private long row(int n) {
        if (random.nextInt(25) == 0) {
            return random.nextLong() >> random.nextInt(64);
        }
        long row = 0;
        for (int i = 0; i < n && i < 5; i++) {
            row = 1000 * row + 100 * Math.abs(compositor() % 10) + 10 * Math.abs(place() % 10) + Math.abs(letter() % 10);
        }
        return row;
    }

    // ---- calls

    private void call(int which) {
        if (which < LOOKS_FROM) {
            act(which);
        } else if (which < 18) {
            lookAtNames(which);
        } else {
            lookAtChances(which);
        }
        due("about(4) behind " + which, x.about(4), m.about(4));
    }

    private void act(int which) {
        int a = compositor();
        int r = reader();
        int s = reader();
        int p = place();
        int l = letter();
        switch (which) {
            case 0: case 1: case 2: due("print", x.print(a, p, l), m.print(a, p, l)); break;
            case 3: due("quiet", x.quiet(), m.quiet()); break;
            case 4: due("tell", x.tell(r, s), m.tell(r, s)); break;
            case 5: due("learn", x.learn(a, l), m.learn(a, l)); break;
            case 6: due("undo", x.undo(), m.undo()); break;
            case 7: s = upTo(2); due("keep", x.keep(s), m.keep(s)); break;
            case 8: s = upTo(2); due("again", x.again(s), m.again(s)); break;
            default: s = upTo(11); due("about " + s, x.about(s), m.about(s)); break;
        }
    }

    private void lookAtNames(int which) {
        int n = 1 + upTo(3);
        long row = row(n);
        int what = upTo(random.nextInt(10) == 0 ? 3 : 1);
        int d = 1 + upTo(4);
        int many = upTo(70);
        int a = name();
        int p = place();
        int l = letter();
        switch (which) {
            case 10: due("after " + a + " " + n + " " + row, x.after(a, n, row), m.after(a, n, row)); break;
            case 11: due("righted " + what, x.righted(what), m.righted(what)); break;
            case 12: due("allRighted " + what, x.allRighted(what), m.allRighted(what)); break;
            case 13: due("ring " + n + " " + row + " " + what, x.ring(n, row, what), m.ring(n, row, what)); break;
            case 14: first(n, row); break;
            case 15: who(a, p, l); break;
            case 16: rareCode(d, many); break;
            default: reader(reader(), upTo(4)); break;
        }
    }

    private void first(int n, long row) {
        int what = upTo(random.nextInt(10) == 0 ? 3 : 2);
        if (random.nextInt(4) == 0) {
            due("first " + n + " " + row + " " + what, x.first(n, row, what), m.first(n, row, what));
        }
    }

    /** The other name is mostly one that somebody makes. */
    private void who(int a, int p, int l) {
        int other = name();
        if (random.nextInt(4) > 0 && m.about(0) > 0) {
            int made = m.after(a, 1, 100 * random.nextInt(m.about(0)) + 10L * p + l);
            other = made >= 0 ? made : other;
        }
        due("who " + a + " " + other + " " + p + " " + l, x.who(a, other, p, l), m.who(a, other, p, l));
    }

    /** The model takes long for these. */
    private void rareCode(int d, int many) {
        if (random.nextInt(40) == 0) {
            due("code " + d, x.code(d), m.code(d));
            due("codeName " + d + " " + many, x.codeName(d, many), m.codeName(d, many));
        }
    }

    private void reader(int r, int what) {
        due("kind", x.kind(r), m.kind(r));
        due("reader " + r + " " + what, x.reader(r, what), m.reader(r, what));
    }

    private void lookAtChances(int which) {
        int a = compositor();
        int n = 1 + upTo(3);
        int t = upTo(10);
        boolean upper = random.nextBoolean();
        switch (which) {
            case 18: case 19: case 20: rests(place(), letter(), place(), letter()); break;
            case 21: case 22: due("chance " + a + " " + n + " " + t, x.chance(a, n, t, upper), m.chance(a, n, t, upper)); break;
            case 23: case 24: due("share " + a, x.share(a, upper), m.share(a, upper)); break;
            case 25: seed(random.nextLong()); break;
            default: n = upTo(32); due("years " + n, x.years(n), m.years(n)); break;
        }
    }

    private void rests(int p, int l, int q, int y) {
        int what = upTo(random.nextInt(10) == 0 ? 3 : 1);
        due("rests " + p + l + q + y + what, x.rests(p, l, q, y, what), m.rests(p, l, q, y, what));
    }

    private void seed(long v) {
        due("seed", x.seed(v), m.seed(v));
    }
}
