import java.util.ArrayList;
import java.util.LinkedList;
import java.util.List;
import java.util.TreeSet;

/** The document once more, as plainly as can be and without a thought for speed: names are texts of figures. */
final class PlainModel {
    private static final int UNKNOWN = -1, BAD = -2, LATE = -3, FULL = -4, NONE = -9;
    private static final TreeSet<String> ENDS = ends();

    private record Moment(String said, List<String> beliefs, List<Integer> kinds, int day) { }

    private String text = "";
    private String truth = "0";
    private List<int[]> readers = new ArrayList<>();
    private Moment now = new Moment("0", List.of(), List.of(), 0);
    private final LinkedList<Moment> acts = new LinkedList<>();
    private final Moment[] kept = new Moment[2];
    private long x = 0;

    // ---- the text: a text can become a paper if one of these ends makes it one

    private static TreeSet<String> ends() {
        TreeSet<String> ends = new TreeSet<>(List.of("", "0", "10"));
        for (int l = 1; l <= 5; l++) {
            String whole = "E" + "a".repeat(l) + "/" + "a".repeat(l);
            for (int i = 0; i < whole.length(); i++) {
                ends.add(whole.substring(i));
            }
        }
        return ends;
    }

    private static boolean isPaper(String s) {
        if (!s.matches("E[a-d]{1,5}/[a-d]{1,5}(C[0-3]|R10|R2[01]|R3[0-2]|R4[0-3])*")) {
            return false;
        }
        int slash = s.indexOf('/');
        String said = s.substring(slash + 1).replaceAll("[^a-d]", "");
        long c = s.chars().filter(b -> b == 'C').count();
        long r = s.chars().filter(b -> b == 'R').count();
        return said.length() == slash - 1 && c <= 3 && r <= 4;
    }

    private static boolean canBecomePaper(String s) {
        return ENDS.stream().anyMatch(end -> isPaper(s + end));
    }

    int write(int b) {
        if (b < 0 || b > 255) return BAD;
        if (text.length() == 40) return FULL;
        text += (char) b;
        return text.length();
    }

    int wipe() {
        int was = text.length();
        text = "";
        return was;
    }

    int fault() {
        if (isPaper(text)) return NONE;
        for (int i = 1; i <= text.length(); i++) {
            if (!canBecomePaper(text.substring(0, i))) return i - 1;
        }
        return text.length();
    }

    int paper() {
        if (fault() != NONE) return LATE;
        String figures = text.replace('a', '0').replace('b', '1').replace('c', '2').replace('d', '3');
        int l = text.indexOf('/') - 1;
        truth = figures.substring(1, l + 1);
        String said = figures.substring(l + 2, 2 * l + 2);
        readers = new ArrayList<>();
        List<Integer> kinds = new ArrayList<>();
        List<String> beliefs = new ArrayList<>();
        for (int i = 2 * l + 2; i < text.length(); i++) {
            if (text.charAt(i) == 'C') kinds.add(text.charAt(i + 1) - '0');
            if (text.charAt(i) == 'R') {
                readers.add(new int[] {text.charAt(i + 1) - '0', text.charAt(i + 2) - '0'});
                beliefs.add(said);
            }
        }
        now = new Moment(said, beliefs, kinds, 0);
        acts.clear();
        kept[0] = null;
        kept[1] = null;
        return 10 * kinds.size() + readers.size();
    }

    // ---- words of the document

    private int right(String name) {
        int count = 0;
        for (int i = 0; i < truth.length(); i++) count += name.charAt(i) == truth.charAt(i) ? 1 : 0;
        return count;
    }

    private static char next(char letter) {
        return letter == '3' ? '0' : (char) (letter + 1);
    }

    private static String notice(int kind, String name, int p, int x) {
        char[] s = name.toCharArray();
        int q = (p + 1) % s.length;
        s[p] = (char) ('0' + x);
        if (kind == 1) s[q] = next(s[q]);
        if (kind == 2) s[p] = next((char) ('0' + x));
        if (kind == 3) {
            char c = s[p];
            s[p] = s[q];
            s[q] = c;
        }
        return new String(s);
    }

    private Moment printed(Moment m, int[] n) {
        List<String> beliefs = new ArrayList<>();
        for (int r = 0; r < readers.size(); r++) {
            boolean reads = m.day % readers.get(r)[0] == readers.get(r)[1];
            beliefs.add(reads ? notice(m.kinds.get(n[0]), m.beliefs.get(r), n[1], n[2]) : m.beliefs.get(r));
        }
        return new Moment(notice(m.kinds.get(n[0]), m.said, n[1], n[2]), beliefs, m.kinds, m.day + 1);
    }

    private void act(Moment then) {
        acts.add(now);
        if (acts.size() > 14) acts.removeFirst();
        now = then;
    }

    private String name(int figures) {
        String s = figures < 0 ? "x" : "" + figures;
        while (s.length() < truth.length()) s = "0" + s;
        return s.length() == truth.length() && s.matches("[0-3]+") ? s : null;
    }

    private boolean compositor(int c) {
        return c >= 0 && c < now.kinds.size();
    }

    private boolean reader(int r) {
        return r >= 0 && r < readers.size();
    }

    private boolean notice(int p, int x) {
        return p >= 0 && p < truth.length() && x >= 0 && x <= 3;
    }

    private List<int[]> row(int n, int most, long row) {
        if (n < 1 || n > most || row < 0) return null;
        String s = "" + row;
        while (s.length() < 3 * n) s = "0" + s;
        if (s.length() != 3 * n) return null;
        List<int[]> notices = new ArrayList<>();
        for (int i = 0; i < n; i++) {
            int[] one = {s.charAt(3 * i) - '0', s.charAt(3 * i + 1) - '0', s.charAt(3 * i + 2) - '0'};
            if (!compositor(one[0]) || !notice(one[1], one[2])) return null;
            notices.add(one);
        }
        return notices;
    }

    private String done(List<int[]> row, String name) {
        for (int[] n : row) name = notice(now.kinds.get(n[0]), name, n[1], n[2]);
        return name;
    }

    private List<String> names() {
        List<String> names = new ArrayList<>();
        for (int i = 0; i < Math.pow(10, truth.length()); i++) {
            if (name(i) != null) names.add(name(i));
        }
        return names;
    }

    // ---- calls

    int about(int what) {
        int reading = 0;
        int believing = 0;
        for (int r = 0; r < readers.size(); r++) {
            reading += now.day % readers.get(r)[0] == readers.get(r)[1] ? 1 << r : 0;
            believing += now.beliefs.get(r).equals(truth) ? 1 << r : 0;
        }
        int[] all = {now.kinds.size(), readers.size(), truth.length(), Integer.parseInt(truth), Integer.parseInt(now.said),
            right(now.said), now.day, reading, believing, acts.size(), text.length()};
        return what < 0 || what >= all.length ? BAD : all[what];
    }

    int kind(int c) {
        return compositor(c) ? now.kinds.get(c) : UNKNOWN;
    }

    int reader(int r, int what) {
        if (!reader(r)) return UNKNOWN;
        int[] all = {readers.get(r)[0], readers.get(r)[1], Integer.parseInt(now.beliefs.get(r)), right(now.beliefs.get(r))};
        return what < 0 || what >= all.length ? BAD : all[what];
    }

    int print(int c, int p, int x) {
        if (!compositor(c)) return UNKNOWN;
        if (!notice(p, x)) return BAD;
        act(printed(now, new int[] {c, p, x}));
        return Integer.parseInt(now.said);
    }

    int quiet() {
        act(new Moment(now.said, now.beliefs, now.kinds, now.day + 1));
        return now.day;
    }

    int tell(int r, int other) {
        if (!reader(r) || !reader(other)) return UNKNOWN;
        if (r == other) return BAD;
        if (now.beliefs.get(r).equals(now.beliefs.get(other))) return LATE;
        List<String> beliefs = new ArrayList<>(now.beliefs);
        beliefs.set(r, beliefs.get(other));
        act(new Moment(now.said, beliefs, now.kinds, now.day));
        return Integer.parseInt(beliefs.get(r));
    }

    int learn(int c, int kind) {
        if (!compositor(c)) return UNKNOWN;
        if (kind < 0 || kind > 3) return BAD;
        if (now.kinds.get(c) == kind) return LATE;
        List<Integer> kinds = new ArrayList<>(now.kinds);
        int was = kinds.set(c, kind);
        act(new Moment(now.said, now.beliefs, kinds, now.day));
        return was;
    }

    int undo() {
        if (acts.isEmpty()) return LATE;
        now = acts.removeLast();
        return acts.size();
    }

    int after(int name, int n, long row) {
        List<int[]> notices = row(n, 4, row);
        return name(name) == null || notices == null ? BAD : Integer.parseInt(done(notices, name(name)));
    }

    /** All rows of n notices in the order of their numbers are looked at, one by one. */
    private int search(boolean all, int what) {
        List<int[]> notices = new ArrayList<>();
        for (int i = 0; i < 1000; i++) {
            if (row(1, 1, i) != null) notices.add(row(1, 1, i).get(0));
        }
        if (isRighted(now, all)) return 0;
        for (int[] n : notices) {
            if (isRighted(printed(now, n), all)) return what == 0 ? 1 : figures(n);
        }
        for (int[] n : notices) {
            for (int[] m : notices) {
                if (isRighted(printed(printed(now, n), m), all)) return what == 0 ? 2 : 1000 * figures(n) + figures(m);
            }
        }
        return NONE;
    }

    private static int figures(int[] n) {
        return 100 * n[0] + 10 * n[1] + n[2];
    }

    private boolean isRighted(Moment m, boolean all) {
        return m.said.equals(truth) && (!all || m.beliefs.stream().allMatch(truth::equals));
    }

    int righted(int what) {
        return what < 0 || what > 1 ? BAD : search(false, what);
    }

    int allRighted(int what) {
        return what < 0 || what > 1 ? BAD : search(true, what);
    }

    int ring(int n, long row, int what) {
        List<int[]> notices = row(n, 3, row);
        if (notices == null || what < 0 || what > 1) return BAD;
        List<String> seen = new ArrayList<>();
        String name = now.said;
        while (!seen.contains(name)) {
            seen.add(name);
            name = done(notices, name);
        }
        return what == 0 ? seen.indexOf(name) : seen.size() - seen.indexOf(name);
    }

    int first(int n, long row, int what) {
        List<int[]> notices = row(n, 3, row);
        if (notices == null || what < 0 || what > 2) return BAD;
        List<String> found = new ArrayList<>();
        for (String name : names()) {
            if (done(notices, name).equals(now.said)) found.add(name);
        }
        if (what == 0) return found.size();
        if (found.isEmpty()) return NONE;
        if (what == 1) return Integer.parseInt(found.get(0));
        int bits = 0;
        for (int p = 0; p < truth.length(); p++) {
            int place = p;
            bits |= found.stream().map(s -> s.charAt(place)).distinct().count() == 1 ? 1 << p : 0;
        }
        return bits;
    }

    int who(int name, int other, int p, int x) {
        if (name(name) == null || name(other) == null || !notice(p, x)) return BAD;
        int bits = 0;
        for (int c = 0; c < now.kinds.size(); c++) {
            bits |= notice(now.kinds.get(c), name(name), p, x).equals(name(other)) ? 1 << c : 0;
        }
        return bits;
    }

    private List<String> taken(int d) {
        List<String> taken = new ArrayList<>();
        for (String name : names()) {
            boolean far = true;
            for (String other : taken) {
                int unlike = 0;
                for (int i = 0; i < name.length(); i++) unlike += name.charAt(i) != other.charAt(i) ? 1 : 0;
                far &= unlike >= d;
            }
            if (far) taken.add(name);
        }
        return taken;
    }

    int code(int d) {
        return d < 1 || d > 5 ? BAD : taken(d).size();
    }

    int codeName(int d, int n) {
        if (d < 1 || d > 5) return BAD;
        List<String> taken = taken(d);
        return n < 0 || n >= taken.size() ? LATE : Integer.parseInt(taken.get(n));
    }

    int rests(int p, int x, int q, int y, int what) {
        if (!notice(p, x) || !notice(q, y) || what < 0 || what > 1) return BAD;
        int k = now.kinds.size();
        List<Integer> found = new ArrayList<>();
        for (int i = 0; i < k; i++) {
            for (int j = 0; j < k; j++) {
                boolean better = false;
                for (int c = 0; c < k; c++) {
                    better |= both(c, p, x, j, q, y) > both(i, p, x, j, q, y);
                    better |= both(i, p, x, c, q, y) < both(i, p, x, j, q, y);
                }
                if (!better) found.add(10 * i + j);
            }
        }
        return what == 0 ? found.size() : found.isEmpty() ? NONE : found.get(0);
    }

    private int both(int i, int p, int x, int j, int q, int y) {
        return right(notice(now.kinds.get(j), notice(now.kinds.get(i), now.said, p, x), q, y));
    }

    private static int fraction(int above, int below, boolean upper) {
        for (int by = below; by > 1; by--) {
            if (above % by == 0 && below % by == 0) {
                above /= by;
                below /= by;
            }
        }
        return upper ? above : below;
    }

    /** All 10 to the n draws, a figure each day: less than t is a slip. */
    int chance(int c, int n, int t, boolean upper) {
        if (!compositor(c)) return UNKNOWN;
        if (n < 1 || n > 4 || t < 0 || t > 10) return BAD;
        int all = (int) Math.round(Math.pow(10, n));
        int well = 0;
        for (int draw = 0; draw < all; draw++) {
            String said = now.said;
            int rest = draw;
            for (int day = 0; day < n; day++) {
                int p = 0;
                while (p < truth.length() && said.charAt(p) == truth.charAt(p)) p++;
                if (p < truth.length()) said = notice(rest % 10 < t ? now.kinds.get(c) : 0, said, p, truth.charAt(p) - '0');
                rest /= 10;
            }
            well += said.equals(truth) ? 1 : 0;
        }
        return fraction(well, all, upper);
    }

    private int most(List<Integer> come) {
        int most = right(now.said);
        for (int c : come) {
            for (int p = 0; p < truth.length(); p++) {
                for (int x = 0; x < 4; x++) most = Math.max(most, right(notice(now.kinds.get(c), now.said, p, x)));
            }
        }
        return most;
    }

    private void orders(List<Integer> come, List<List<Integer>> all) {
        if (come.size() == now.kinds.size()) all.add(new ArrayList<>(come));
        for (int c = 0; c < now.kinds.size(); c++) {
            if (!come.contains(c)) {
                come.add(c);
                orders(come, all);
                come.remove(come.size() - 1);
            }
        }
    }

    int share(int c, boolean upper) {
        if (!compositor(c)) return UNKNOWN;
        List<List<Integer>> orders = new ArrayList<>();
        orders(new ArrayList<>(), orders);
        int gain = 0;
        for (List<Integer> order : orders) {
            int at = order.indexOf(c);
            gain += most(order.subList(0, at + 1)) - most(order.subList(0, at));
        }
        return fraction(gain, orders.size(), upper);
    }

    long seed(long v) {
        long was = x;
        x = v;
        return was;
    }

    int years(int m) {
        if (m < 1 || m > 30) return BAD;
        String said = now.said;
        int together = 0;
        for (int i = 0; i < m; i++) {
            x = x * 6364136223846793005L + 1442695040888963407L;
            int left = (int) (Long.divideUnsigned(x, 1L << 33) % 60);
            if (compositor(left / 20) && notice(left % 20 / 4, left % 4)) {
                said = notice(now.kinds.get(left / 20), said, left % 20 / 4, left % 4);
            }
            together += right(said);
        }
        return together;
    }

    int keep(int slot) {
        if (slot < 0 || slot > 1) return UNKNOWN;
        kept[slot] = now;
        return now.day;
    }

    int again(int slot) {
        if (slot < 0 || slot > 1) return UNKNOWN;
        if (kept[slot] == null) return LATE;
        now = kept[slot];
        acts.clear();
        return now.day;
    }
}
