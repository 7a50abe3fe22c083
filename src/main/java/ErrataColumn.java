/** A paper that rights a name with another slip: ../shared/DOC.md says what each call answers. */
public final class ErrataColumn {
    public static final int UNKNOWN = -1, BAD = -2, LATE = -3, FULL = -4, NONE = -9;

    private static final int LETTERS = 4;
    private static final int MOST_LETTERS = 5;
    private static final int MOST_COMPOSITORS = 3;
    private static final int MOST_READERS = 4;
    private static final int MOST_NAMES = 1 << (2 * MOST_LETTERS);
    private static final int KINDS = 4;
    private static final int PLAIN = 0, CARELESS = 1, PROUD = 2, HASTY = 3;
    private static final int SLOTS = 2;
    private static final int MOST_YEARS = 30;
    private static final long SEED_TIMES = 6364136223846793005L;
    private static final long SEED_AND = 1442695040888963407L;

    private final Text text = new Text();
    private final Sheet sheet = new Sheet();
    private final Past past = new Past();
    private final Shelf slots = new Shelf(SLOTS);
    private final Row notices = new Row();
    private final Righting righting = new Righting();
    private final Code takenNames = new Code();
    private final Editors editors = new Editors();
    private final Odds odds = new Odds();
    private int keptSlots = 0;
    private long seedNow = 0L;

    public ErrataColumn() {
    }

    // ---- the paper

    public int write(int letter) {
        if (letter < 0 || letter > 255) {
            return BAD;
        }
        return text.add(letter) ? text.size : FULL;
    }

    public int wipe() {
        int was = text.size;
        text.size = 0;
        return was;
    }

    public int fault() {
        return text.findFault();
    }

    public int paper() {
        if (text.findFault() != NONE) {
            return LATE;
        }
        sheet.makeAnew(text);
        past.forget();
        keptSlots = 0;
        return 10 * sheet.compositors + sheet.readers;
    }

    public int about(int what) {
        Standing now = sheet.now;
        switch (what) {
            case 0: return sheet.compositors;
            case 1: return sheet.readers;
            case 2: return sheet.spelling.length;
            case 3: return sheet.spelling.told(sheet.truth);
            case 4: return sheet.spelling.told(now.said());
            case 5: return sheet.rightOf(now.said());
            case 6: return now.day();
            case 7: return sheet.readingToday();
            case 8: return sheet.believingTruth();
            case 9: return past.count;
            case 10: return text.size;
            default: return BAD;
        }
    }

    public int kind(int compositor) {
        return sheet.hasCompositor(compositor) ? sheet.now.kindOf(compositor) : UNKNOWN;
    }

    public int reader(int reader, int what) {
        if (!sheet.hasReader(reader)) {
            return UNKNOWN;
        }
        switch (what) {
            case 0: return sheet.periodOf(reader);
            case 1: return sheet.leftOf(reader);
            case 2: return sheet.spelling.told(sheet.now.beliefOf(reader));
            case 3: return sheet.rightOf(sheet.now.beliefOf(reader));
            default: return BAD;
        }
    }

    // ---- acts

    public int print(int compositor, int place, int letter) {
        if (!sheet.hasCompositor(compositor)) {
            return UNKNOWN;
        }
        if (!sheet.isNoticeFor(place, letter)) {
            return BAD;
        }
        past.note(sheet.now);
        sheet.printNotice(compositor, place, letter);
        return sheet.spelling.told(sheet.now.said());
    }

    public int quiet() {
        past.note(sheet.now);
        sheet.now.nextDay();
        return sheet.now.day();
    }

    public int tell(int reader, int other) {
        if (!sheet.hasReader(reader) || !sheet.hasReader(other)) {
            return UNKNOWN;
        }
        if (reader == other) {
            return BAD;
        }
        int belief = sheet.now.beliefOf(other);
        if (sheet.now.beliefOf(reader) == belief) {
            return LATE;
        }
        past.note(sheet.now);
        sheet.now.setBelief(reader, belief);
        return sheet.spelling.told(belief);
    }

    public int learn(int compositor, int kind) {
        if (!sheet.hasCompositor(compositor)) {
            return UNKNOWN;
        }
        if (kind < 0 || kind >= KINDS) {
            return BAD;
        }
        int was = sheet.now.kindOf(compositor);
        if (was == kind) {
            return LATE;
        }
        past.note(sheet.now);
        sheet.now.setKind(compositor, kind);
        return was;
    }

    public int undo() {
        return past.bringBack(sheet.now) ? past.count : LATE;
    }

    // ---- names

    public int after(int name, int n, long row) {
        int from = sheet.spelling.packed(name);
        if (from == NONE || !notices.read(sheet, n, 4, row)) {
            return BAD;
        }
        return sheet.spelling.told(notices.doneOn(sheet, from));
    }

    public int righted(int what) {
        if (what < 0 || what > 1) {
            return BAD;
        }
        righting.search(sheet, 0);
        return what == 0 ? righting.fewest : righting.row;
    }

    public int allRighted(int what) {
        if (what < 0 || what > 1) {
            return BAD;
        }
        righting.search(sheet, sheet.readers);
        return what == 0 ? righting.fewest : righting.row;
    }

    public int ring(int n, long row, int what) {
        if (!notices.read(sheet, n, 3, row) || what < 0 || what > 1) {
            return BAD;
        }
        int onRing = notices.nameOnRing(sheet);
        return what == 0 ? notices.roundsToRing(sheet, onRing) : notices.roundsOfRing(sheet, onRing);
    }

    public int first(int n, long row, int what) {
        if (!notices.read(sheet, n, 3, row) || what < 0 || what > 2) {
            return BAD;
        }
        int count = 0;
        int least = NONE;
        int unlike = 0;
        for (int name = 0; name < sheet.spelling.names(); name++) {
            if (notices.doneOn(sheet, name) == sheet.now.said()) {
                least = count == 0 ? name : least;
                unlike |= name ^ least;
                count++;
            }
        }
        if (what == 0) {
            return count;
        }
        if (count == 0) {
            return NONE;
        }
        return what == 1 ? sheet.spelling.told(least) : sheet.spelling.placesAlike(unlike);
    }

    public int who(int name, int other, int place, int letter) {
        int from = sheet.spelling.packed(name);
        int to = sheet.spelling.packed(other);
        if (from == NONE || to == NONE || !sheet.isNoticeFor(place, letter)) {
            return BAD;
        }
        int bits = 0;
        for (int c = 0; c < sheet.compositors; c++) {
            if (sheet.noticed(c, from, place, letter) == to) {
                bits |= 1 << c;
            }
        }
        return bits;
    }

    public int code(int d) {
        if (d < 1 || d > MOST_LETTERS) {
            return BAD;
        }
        takenNames.take(sheet.spelling, d, 0);
        return takenNames.count;
    }

    public int codeName(int d, int n) {
        if (d < 1 || d > MOST_LETTERS) {
            return BAD;
        }
        takenNames.take(sheet.spelling, d, n);
        return takenNames.wanted == NONE ? LATE : sheet.spelling.told(takenNames.wanted);
    }

    // ---- rests, chances

    public int rests(int p, int x, int q, int y, int what) {
        if (!sheet.isNoticeFor(p, x) || !sheet.isNoticeFor(q, y) || what < 0 || what > 1) {
            return BAD;
        }
        editors.look(sheet, p, x, q, y);
        return what == 0 ? editors.restsInAll() : editors.leastRest();
    }

    public int chance(int compositor, int n, int t, boolean upper) {
        if (!sheet.hasCompositor(compositor)) {
            return UNKNOWN;
        }
        if (n < 1 || n > 4 || t < 0 || t > 10) {
            return BAD;
        }
        return Odds.inLeastTerms(odds.ofTruth(sheet, compositor, n, t), Odds.tenTo(n), upper);
    }

    public int share(int compositor, boolean upper) {
        if (!sheet.hasCompositor(compositor)) {
            return UNKNOWN;
        }
        odds.weighCompositors(sheet);
        return Odds.inLeastTerms(odds.gainInOrders(compositor), odds.orders(), upper);
    }

    public long seed(long v) {
        long was = seedNow;
        seedNow = v;
        return was;
    }

    public int years(int m) {
        if (m < 1 || m > MOST_YEARS) {
            return BAD;
        }
        int said = sheet.now.said();
        int together = 0;
        for (int year = 0; year < m; year++) {
            seedNow = seedNow * SEED_TIMES + SEED_AND;
            int drawn = (int) ((seedNow >>> 33) % 60);
            int compositor = drawn / 20;
            int place = drawn % 20 / 4;
            if (sheet.hasCompositor(compositor) && sheet.spelling.hasPlace(place)) {
                said = sheet.noticed(compositor, said, place, drawn % 4);
            }
            together += sheet.rightOf(said);
        }
        return together;
    }

    // ---- slots

    public int keep(int slot) {
        if (slot < 0 || slot >= SLOTS) {
            return UNKNOWN;
        }
        slots.put(slot, sheet.now);
        keptSlots |= 1 << slot;
        return sheet.now.day();
    }

    public int again(int slot) {
        if (slot < 0 || slot >= SLOTS) {
            return UNKNOWN;
        }
        if ((keptSlots >> slot & 1) == 0) {
            return LATE;
        }
        slots.fetch(slot, sheet.now);
        past.forget();
        return sheet.now.day();
    }

    /** The bytes as they were written, and what they tell, read up to the first one that no paper could have there. */
    private static final class Text {
        private static final int AT_E = 0, IN_TRUTH = 1, IN_SAID = 2, AT_PART = 3, AT_KIND = 4, AT_PERIOD = 5, AT_LEFT = 6;

        private final int[] bytes = new int[40];
        private final int[] kinds = new int[MOST_COMPOSITORS];
        private final int[] periods = new int[MOST_READERS];
        private final int[] lefts = new int[MOST_READERS];
        private int size = 0;
        private int compositors;
        private int readers;
        private int length;
        private int saidLength;
        private int truth;
        private int said;
        private int expected;

        private boolean add(int b) {
            if (size < 0 || size >= bytes.length) {
                return false;
            }
            bytes[size] = b;
            size++;
            return true;
        }

        private int findFault() {
            compositors = 0;
            readers = 0;
            length = 0;
            saidLength = 0;
            truth = 0;
            said = 0;
            expected = AT_E;
            for (int place = 0; place < size && place < bytes.length; place++) {
                if (!accepts(bytes[place])) {
                    return place;
                }
            }
            return expected == AT_PART ? NONE : size;
        }

        private boolean accepts(int b) {
            switch (expected) {
                case AT_E: return acceptsE(b);
                case IN_TRUTH: return acceptsTruth(b);
                case IN_SAID: return acceptsSaid(b);
                case AT_PART: return acceptsPart(b);
                case AT_KIND: return acceptsKind(b);
                case AT_PERIOD: return acceptsPeriod(b);
                default: return acceptsLeft(b);
            }
        }

        private boolean acceptsE(int b) {
            expected = IN_TRUTH;
            return b == 'E';
        }

        private boolean acceptsTruth(int b) {
            if (b == '/') {
                expected = IN_SAID;
                return length > 0;
            }
            truth = truth * 4 + (b - 'a');
            length++;
            return isLetter(b) && length <= MOST_LETTERS;
        }

        private boolean acceptsSaid(int b) {
            said = said * 4 + (b - 'a');
            saidLength++;
            if (saidLength == length) {
                expected = AT_PART;
            }
            return isLetter(b);
        }

        private boolean acceptsPart(int b) {
            if (b == 'C') {
                expected = AT_KIND;
                return compositors < MOST_COMPOSITORS;
            }
            expected = AT_PERIOD;
            return b == 'R' && readers < MOST_READERS;
        }

        private boolean acceptsKind(int b) {
            int kind = b - '0';
            if (kind < 0 || kind >= KINDS || compositors < 0 || compositors >= kinds.length) {
                return false;
            }
            kinds[compositors] = kind;
            compositors++;
            expected = AT_PART;
            return true;
        }

        private boolean acceptsPeriod(int b) {
            int period = b - '0';
            if (period < 1 || period > 4 || readers < 0 || readers >= periods.length) {
                return false;
            }
            periods[readers] = period;
            expected = AT_LEFT;
            return true;
        }

        private boolean acceptsLeft(int b) {
            int left = b - '0';
            if (readers < 0 || readers >= periods.length || readers >= lefts.length) {
                return false;
            }
            if (left < 0 || left >= periods[readers]) {
                return false;
            }
            lefts[readers] = left;
            readers++;
            expected = AT_PART;
            return true;
        }

        private static boolean isLetter(int b) {
            return b >= 'a' && b <= 'd';
        }
    }

    /** Names of one length, two bits a letter with the first letter uppermost: so they are ordered as their figures are. */
    private static final class Spelling {
        /** The lower bit of each letter of the longest name. */
        private static final int LOWER_BITS = 0x155;

        private int length = 1;

        private int names() {
            return 1 << (2 * length);
        }

        private boolean hasPlace(int place) {
            return place >= 0 && place < length;
        }

        private int nextPlace(int place) {
            return place + 1 < length ? place + 1 : 0;
        }

        private int letterAt(int name, int place) {
            return name >> 2 * (length - 1 - place) & 3;
        }

        private int withLetter(int name, int place, int letter) {
            int shift = 2 * (length - 1 - place);
            return name & ~(3 << shift) | (letter & 3) << shift;
        }

        private int noticed(int kind, int name, int place, int letter) {
            int next = nextPlace(place);
            int made = withLetter(name, place, letter);
            switch (kind) {
                case CARELESS: return withLetter(made, next, letterAt(made, next) + 1);
                case PROUD: return withLetter(made, place, letter + 1);
                case HASTY: return withLetter(withLetter(made, place, letterAt(made, next)), next, letter);
                default: return made;
            }
        }

        /** At how many places two names are unlike, told by the bits in which they differ. */
        private static int placesUnlike(int difference) {
            return Integer.bitCount((difference | difference >> 1) & LOWER_BITS);
        }

        private int placesAlike(int difference) {
            int bits = 0;
            for (int place = 0; place < length; place++) {
                if (letterAt(difference, place) == 0) {
                    bits |= 1 << place;
                }
            }
            return bits;
        }

        private int told(int name) {
            int figures = 0;
            for (int place = 0; place < length; place++) {
                figures = figures * 10 + letterAt(name, place);
            }
            return figures;
        }

        /** The name that is told by figures; NONE if they tell no name of this length. */
        private int packed(int figures) {
            if (figures < 0) {
                return NONE;
            }
            int name = 0;
            int rest = figures;
            for (int place = length - 1; place >= 0; place--) {
                if (rest % 10 > 3) {
                    return NONE;
                }
                name = withLetter(name, place, rest % 10);
                rest /= 10;
            }
            return rest == 0 ? name : NONE;
        }
    }

    /** All that acts change and slots keep, as one row of cells that is copied whole. */
    private static final class Standing {
        private static final int SAID = 0, DAY = 1, FIRST_KIND = 2;
        private static final int FIRST_BELIEF = FIRST_KIND + MOST_COMPOSITORS;
        private static final int WIDTH = FIRST_BELIEF + MOST_READERS;

        private final int[] cells = new int[WIDTH];

        private int said() {
            return cells[SAID];
        }

        private int day() {
            return cells[DAY];
        }

        private int kindOf(int compositor) {
            return compositor >= 0 && compositor < MOST_COMPOSITORS ? cells[FIRST_KIND + compositor] : PLAIN;
        }

        private int beliefOf(int reader) {
            return reader >= 0 && reader < MOST_READERS ? cells[FIRST_BELIEF + reader] : NONE;
        }

        private void setSaid(int name) {
            cells[SAID] = name;
        }

        private void startDays() {
            cells[DAY] = 0;
        }

        private void nextDay() {
            cells[DAY]++;
        }

        private void setKind(int compositor, int kind) {
            if (compositor >= 0 && compositor < MOST_COMPOSITORS) {
                cells[FIRST_KIND + compositor] = kind;
            }
        }

        private void setBelief(int reader, int name) {
            if (reader >= 0 && reader < MOST_READERS) {
                cells[FIRST_BELIEF + reader] = name;
            }
        }
    }

    /** Copies of standings, side by side. */
    private static final class Shelf {
        private final int[] copies;

        private Shelf(int room) {
            copies = new int[Math.max(0, room) * Standing.WIDTH];
        }

        private boolean holds(int slot) {
            return slot >= 0 && slot < copies.length / Standing.WIDTH;
        }

        private void put(int slot, Standing from) {
            if (holds(slot)) {
                System.arraycopy(from.cells, 0, copies, slot * Standing.WIDTH, Standing.WIDTH);
            }
        }

        private void fetch(int slot, Standing to) {
            if (holds(slot)) {
                System.arraycopy(copies, slot * Standing.WIDTH, to.cells, 0, Standing.WIDTH);
            }
        }
    }

    /** The last acts, each as what stood before it; a ring of copies, so that forgetting the first one moves nothing. */
    private static final class Past {
        private static final int MOST_ACTS = 14;

        private final Shelf before = new Shelf(MOST_ACTS);
        private int acts = 0;
        private int count = 0;

        private void note(Standing now) {
            before.put(acts % MOST_ACTS, now);
            acts++;
            count = Math.min(count + 1, MOST_ACTS);
        }

        private boolean bringBack(Standing now) {
            if (count <= 0 || acts <= 0) {
                return false;
            }
            acts--;
            count--;
            before.fetch(acts % MOST_ACTS, now);
            return true;
        }

        private void forget() {
            acts = 0;
            count = 0;
        }
    }

    /** The paper: what it is about, who is there, and what stands now. */
    private static final class Sheet {
        private final Spelling spelling = new Spelling();
        private final Standing now = new Standing();
        private final int[] periods = new int[MOST_READERS];
        private final int[] lefts = new int[MOST_READERS];
        private int compositors = 0;
        private int readers = 0;
        private int truth = 0;

        private void makeAnew(Text from) {
            spelling.length = from.length;
            truth = from.truth;
            compositors = from.compositors;
            readers = from.readers;
            System.arraycopy(from.periods, 0, periods, 0, MOST_READERS);
            System.arraycopy(from.lefts, 0, lefts, 0, MOST_READERS);
            now.setSaid(from.said);
            now.startDays();
            for (int c = 0; c < compositors && c < from.kinds.length; c++) {
                now.setKind(c, from.kinds[c]);
            }
            for (int r = 0; r < readers; r++) {
                now.setBelief(r, from.said);
            }
        }

        private boolean hasCompositor(int compositor) {
            return compositor >= 0 && compositor < compositors;
        }

        private boolean hasReader(int reader) {
            return reader >= 0 && reader < readers;
        }

        private boolean isNoticeFor(int place, int letter) {
            return spelling.hasPlace(place) && letter >= 0 && letter < LETTERS;
        }

        private int periodOf(int reader) {
            return reader >= 0 && reader < periods.length ? periods[reader] : 0;
        }

        private int leftOf(int reader) {
            return reader >= 0 && reader < lefts.length ? lefts[reader] : 0;
        }

        private boolean readsOn(int reader, int day) {
            int period = periodOf(reader);
            return period > 0 && day % period == leftOf(reader);
        }

        private int rightOf(int name) {
            return spelling.length - Spelling.placesUnlike(name ^ truth);
        }

        private int readingToday() {
            int bits = 0;
            for (int r = 0; r < readers; r++) {
                if (readsOn(r, now.day())) {
                    bits |= 1 << r;
                }
            }
            return bits;
        }

        private int believingTruth() {
            int bits = 0;
            for (int r = 0; r < readers; r++) {
                if (now.beliefOf(r) == truth) {
                    bits |= 1 << r;
                }
            }
            return bits;
        }

        private int noticed(int compositor, int name, int place, int letter) {
            return spelling.noticed(now.kindOf(compositor), name, place, letter);
        }

        private void printNotice(int compositor, int place, int letter) {
            now.setSaid(noticed(compositor, now.said(), place, letter));
            for (int r = 0; r < readers; r++) {
                if (readsOn(r, now.day())) {
                    now.setBelief(r, noticed(compositor, now.beliefOf(r), place, letter));
                }
            }
            now.nextDay();
        }
    }

    /** The row of notices that a call tells, three figures each. */
    private static final class Row {
        private final int[] notices = new int[4];
        private int length = 0;

        private boolean read(Sheet sheet, int n, int most, long told) {
            if (n < 1 || n > most || n > notices.length || told < 0) {
                return false;
            }
            long rest = told;
            for (int i = n - 1; i >= 0; i--) {
                int notice = (int) (rest % 1000);
                if (!sheet.hasCompositor(notice / 100) || !sheet.isNoticeFor(notice / 10 % 10, notice % 10)) {
                    return false;
                }
                notices[i] = notice;
                rest /= 1000;
            }
            length = n;
            return rest == 0;
        }

        private int doneOn(Sheet sheet, int name) {
            int made = name;
            for (int i = 0; i < length && i < notices.length; i++) {
                int notice = notices[i];
                made = sheet.noticed(notice / 100, made, notice / 10 % 10, notice % 10);
            }
            return made;
        }

        /** A name that the rounds from SAID come to over and over: one goes twice as fast until they meet. */
        private int nameOnRing(Sheet sheet) {
            int slow = doneOn(sheet, sheet.now.said());
            int fast = doneOn(sheet, slow);
            for (int round = 0; round < MOST_NAMES && slow != fast; round++) {
                slow = doneOn(sheet, slow);
                fast = doneOn(sheet, doneOn(sheet, fast));
            }
            return slow;
        }

        /** Where the two met is whole rings ahead of SAID: one from there and one from SAID first meet where the ring begins. */
        private int roundsToRing(Sheet sheet, int onRing) {
            int name = sheet.now.said();
            int ahead = onRing;
            int rounds = 0;
            while (rounds < MOST_NAMES && name != ahead) {
                name = doneOn(sheet, name);
                ahead = doneOn(sheet, ahead);
                rounds++;
            }
            return rounds;
        }

        private int roundsOfRing(Sheet sheet, int onRing) {
            int name = doneOn(sheet, onRing);
            int rounds = 1;
            while (rounds < MOST_NAMES && name != onRing) {
                name = doneOn(sheet, name);
                rounds++;
            }
            return rounds;
        }
    }

    /** The search for the fewest notices that right SAID and what the first so many readers believe. */
    private static final class Righting {
        private final int[] beliefs = new int[MOST_READERS];
        private int fewest;
        private int row;

        private void search(Sheet sheet, int readers) {
            fewest = NONE;
            row = NONE;
            if (isRighted(sheet, readers)) {
                fewest = 0;
                row = 0;
                return;
            }
            readBeliefs(sheet, readers);
            int one = lastNotice(sheet, sheet.now.said(), readers, sheet.now.day());
            if (one != NONE) {
                fewest = 1;
                row = one;
                return;
            }
            int two = twoNotices(sheet, readers);
            if (two != NONE) {
                fewest = 2;
                row = two;
            }
        }

        private static boolean isRighted(Sheet sheet, int readers) {
            int all = (1 << readers) - 1;
            return sheet.now.said() == sheet.truth && (sheet.believingTruth() & all) == all;
        }

        private void readBeliefs(Sheet sheet, int readers) {
            for (int r = 0; r < readers && r < beliefs.length; r++) {
                beliefs[r] = sheet.now.beliefOf(r);
            }
        }

        private int twoNotices(Sheet sheet, int readers) {
            int day = sheet.now.day();
            for (int c = 0; c < sheet.compositors; c++) {
                for (int p = 0; p < sheet.spelling.length; p++) {
                    for (int x = 0; x < LETTERS; x++) {
                        readAhead(sheet, readers, c, p, x);
                        int last = lastNotice(sheet, sheet.noticed(c, sheet.now.said(), p, x), readers, day + 1);
                        if (last != NONE) {
                            return (100 * c + 10 * p + x) * 1000 + last;
                        }
                    }
                }
            }
            return NONE;
        }

        /** What readers believe when the notice is printed today. */
        private void readAhead(Sheet sheet, int readers, int compositor, int place, int letter) {
            for (int r = 0; r < readers && r < beliefs.length; r++) {
                int belief = sheet.now.beliefOf(r);
                beliefs[r] = sheet.readsOn(r, sheet.now.day()) ? sheet.noticed(compositor, belief, place, letter) : belief;
            }
        }

        /** The first notice that, printed on a day, rights what was said and the beliefs; NONE. */
        private int lastNotice(Sheet sheet, int said, int readers, int day) {
            for (int c = 0; c < sheet.compositors; c++) {
                int kind = sheet.now.kindOf(c);
                for (int p = 0; p < sheet.spelling.length; p++) {
                    for (int x = 0; x < LETTERS; x++) {
                        if (sheet.spelling.noticed(kind, said, p, x) == sheet.truth
                                && rightsBeliefs(sheet, readers, day, kind, p, x)) {
                            return 100 * c + 10 * p + x;
                        }
                    }
                }
            }
            return NONE;
        }

        private boolean rightsBeliefs(Sheet sheet, int readers, int day, int kind, int place, int letter) {
            for (int r = 0; r < readers && r < beliefs.length; r++) {
                int belief = beliefs[r];
                if (sheet.readsOn(r, day)) {
                    belief = sheet.spelling.noticed(kind, belief, place, letter);
                }
                if (belief != sheet.truth) {
                    return false;
                }
            }
            return true;
        }
    }

    /** Names taken from the least on, each unlike all taken before at d places or more. */
    private static final class Code {
        private final boolean[] tooNear = new boolean[MOST_NAMES];
        private final int[] slips = new int[MOST_NAMES];
        private int slipCount;
        private int count;
        private int wanted;

        /** Takes all names, and notes the n-th one as wanted (NONE if there are not so many). */
        private void take(Spelling spelling, int d, int n) {
            findSlips(spelling, d);
            clearNear();
            count = 0;
            wanted = NONE;
            for (int name = 0; name < spelling.names() && name < tooNear.length; name++) {
                if (!tooNear[name]) {
                    wanted = count == n ? name : wanted;
                    count++;
                    barAround(name);
                }
            }
        }

        private void clearNear() {
            for (int name = 0; name < tooNear.length; name++) {
                tooNear[name] = false;
            }
        }

        /** All differences at fewer than d places: a name that is too near to one taken is that one with such a slip. */
        private void findSlips(Spelling spelling, int d) {
            slipCount = 0;
            for (int slip = 0; slip < spelling.names() && slipCount < slips.length; slip++) {
                if (Spelling.placesUnlike(slip) < d) {
                    slips[slipCount] = slip;
                    slipCount++;
                }
            }
        }

        private void barAround(int name) {
            for (int i = 0; i < slipCount && i < slips.length; i++) {
                int near = name ^ slips[i];
                if (near >= 0 && near < tooNear.length) {
                    tooNear[near] = true;
                }
            }
        }
    }

    /** Two editors, each with a choice of compositors: how much is right by each pair of choices. */
    private static final class Editors {
        private final int[] right = new int[MOST_COMPOSITORS * MOST_COMPOSITORS];
        private int choices;

        private void look(Sheet sheet, int p, int x, int q, int y) {
            choices = Math.min(sheet.compositors, MOST_COMPOSITORS);
            for (int one = 0; one < choices; one++) {
                int between = sheet.noticed(one, sheet.now.said(), p, x);
                for (int other = 0; other < choices; other++) {
                    int cell = one * MOST_COMPOSITORS + other;
                    if (cell < right.length) {
                        right[cell] = sheet.rightOf(sheet.noticed(other, between, q, y));
                    }
                }
            }
        }

        private int rightBy(int one, int other) {
            int cell = one * MOST_COMPOSITORS + other;
            return cell >= 0 && cell < right.length ? right[cell] : 0;
        }

        private boolean isAtRest(int one, int other) {
            int right = rightBy(one, other);
            for (int c = 0; c < choices; c++) {
                if (rightBy(c, other) > right || rightBy(one, c) < right) {
                    return false;
                }
            }
            return true;
        }

        private int restsInAll() {
            int count = 0;
            for (int one = 0; one < choices; one++) {
                for (int other = 0; other < choices; other++) {
                    count += isAtRest(one, other) ? 1 : 0;
                }
            }
            return count;
        }

        private int leastRest() {
            for (int one = 0; one < choices; one++) {
                for (int other = 0; other < choices; other++) {
                    if (isAtRest(one, other)) {
                        return 10 * one + other;
                    }
                }
            }
            return NONE;
        }
    }

    /** Chances and shares, as whole numbers above a known one below. */
    private static final class Odds {
        private static final int[] ORDERS = {1, 1, 2, 6};

        private final int[] bests = new int[MOST_COMPOSITORS];
        private int compositors;
        private int rightByNone;

        private static int tenTo(int n) {
            int power = 1;
            for (int i = 0; i < n && i < 4; i++) {
                power *= 10;
            }
            return power;
        }

        private int ofTruth(Sheet sheet, int compositor, int days, int tenths) {
            return waysToTruth(sheet, sheet.now.said(), sheet.now.kindOf(compositor), days, tenths);
        }

        /** Of 10 to the days ways that are alike likely, how many come to TRUTH; the days left bound the depth. */
        private static int waysToTruth(Sheet sheet, int said, int kind, int days, int tenths) {
            if (said == sheet.truth) {
                return tenTo(days);
            }
            if (days <= 0) {
                return 0;
            }
            int place = leastWrong(sheet, said);
            int letter = sheet.spelling.letterAt(sheet.truth, place);
            int slipped = sheet.spelling.noticed(kind, said, place, letter);
            int plain = sheet.spelling.noticed(PLAIN, said, place, letter);
            return tenths * waysToTruth(sheet, slipped, kind, days - 1, tenths)
                    + (10 - tenths) * waysToTruth(sheet, plain, kind, days - 1, tenths);
        }

        private static int leastWrong(Sheet sheet, int said) {
            int place = 0;
            while (place < sheet.spelling.length - 1
                    && sheet.spelling.letterAt(said, place) == sheet.spelling.letterAt(sheet.truth, place)) {
                place++;
            }
            return place;
        }

        private void weighCompositors(Sheet sheet) {
            compositors = Math.min(sheet.compositors, MOST_COMPOSITORS);
            rightByNone = sheet.rightOf(sheet.now.said());
            for (int c = 0; c < compositors && c < bests.length; c++) {
                bests[c] = mostRightBy(sheet, c);
            }
        }

        private static int mostRightBy(Sheet sheet, int compositor) {
            int most = 0;
            for (int p = 0; p < sheet.spelling.length; p++) {
                for (int x = 0; x < LETTERS; x++) {
                    most = Math.max(most, sheet.rightOf(sheet.noticed(compositor, sheet.now.said(), p, x)));
                }
            }
            return most;
        }

        private int mostRightOf(int come) {
            int most = rightByNone;
            for (int c = 0; c < compositors && c < bests.length; c++) {
                if ((come >> c & 1) == 1) {
                    most = Math.max(most, bests[c]);
                }
            }
            return most;
        }

        /** What a compositor adds over all orders: those that came before it and those that come behind have their own orders. */
        private int gainInOrders(int compositor) {
            int gain = 0;
            for (int come = 0; come < 1 << compositors; come++) {
                if ((come >> compositor & 1) == 0) {
                    int before = Integer.bitCount(come);
                    int ways = ordersOf(before) * ordersOf(compositors - 1 - before);
                    gain += ways * (mostRightOf(come | 1 << compositor) - mostRightOf(come));
                }
            }
            return gain;
        }

        private int orders() {
            return ordersOf(compositors);
        }

        private static int ordersOf(int n) {
            return n >= 0 && n < ORDERS.length ? ORDERS[n] : 1;
        }

        private static int inLeastTerms(int above, int below, boolean upper) {
            int common = above;
            int rest = below;
            for (int step = 0; step < 64 && rest != 0; step++) {
                int left = common % rest;
                common = rest;
                rest = left;
            }
            int told = upper ? above : below;
            return common != 0 ? told / common : told;
        }
    }
}
