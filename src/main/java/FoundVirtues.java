import java.util.Arrays;

/** An office where virtues that were found are handed in, claimed, given, kept and sold. */
public final class FoundVirtues {
    public static final int NONE = -1, BAD = -2, NOT = -3, FULL = -4;

    private static final int MOST = 8;
    private static final int SORTS = 4;
    private static final int SORT_SETS = 16;
    private static final int WEEKS = 40;
    private static final int WHEN_WEEKS = 20;
    private static final int TOLD_MOST = 12;
    private static final int SHELVES_MOST = 6;
    private static final int SIXTEENTHS = 16;
    private static final int SHEETS = 4;
    private static final int FORMS = 3;
    private static final int NULL = 1, INDEX = 2, CAST = 3, STORE = 4, SIZE = 5;
    private static final int FINDINGS = -10;
    private static final int HOW_MANY = -2;
    private static final int LEAST_INT = 1 << 31;
    private static final long LEAST_LONG = 1L << 63;

    private final Entries virtues = new Entries(false);
    private final Entries claimants = new Entries(true);
    private final Office office = new Office(virtues, claimants);
    private final Book handings = new Book();
    private final Book claims = new Book();
    private final Sightings sightings = new Sightings();
    private final Run told = new Run(office);
    private final Run trial = new Run(office);
    private final Rows rows = new Rows();
    private final Sheet[] sheets = new Sheet[SHEETS];
    private boolean toldStands;
    private boolean rowsStand;
    private int latestFinding;

    public FoundVirtues() {
        for (int s = 0; s < SHEETS; s++) {
            sheets[s] = new Sheet();
        }
    }

    // ---- virtues, claimants

    public int type(int text, int b) {
        if (outside(text, 2) || outside(b, 256)) {
            return BAD;
        }
        Entries entries = textOf(text);
        if (entries.size >= Entries.BYTES) {
            return FULL;
        }
        entries.add(b);
        textChanged();
        return entries.size;
    }

    public int wipe(int text) {
        if (outside(text, 2)) {
            return BAD;
        }
        Entries entries = textOf(text);
        int had = entries.size;
        entries.clear();
        textChanged();
        return had;
    }

    public int undo(int text) {
        if (outside(text, 2)) {
            return BAD;
        }
        Entries entries = textOf(text);
        if (entries.size == 0) {
            return NOT;
        }
        entries.dropLast();
        textChanged();
        return entries.size;
    }

    public int fault(int text) {
        return outside(text, 2) ? BAD : textOf(text).faultPlace();
    }

    public int virtue(int virtue, int what) {
        if (noVirtue(virtue) || outside(what, 2)) {
            return BAD;
        }
        return what == 0 ? virtues.high[virtue] : virtues.figure[virtue];
    }

    public int claimant(int claimant, int what) {
        if (noClaimant(claimant) || outside(what, 3)) {
            return BAD;
        }
        if (what == 0) {
            return claimants.said[claimant];
        }
        return what == 1 ? claimants.high[claimant] : claimants.figure[claimant];
    }

    public int set(int what, int v) {
        int was;
        if (what == 0 && v >= 0 && v <= SORTS) {
            was = office.enough;
            office.enough = v;
        } else if (what == 1 && v >= 0 && v < SORT_SETS) {
            was = office.secret;
            office.secret = v;
        } else if (what == 2 && v >= 1 && v <= 9) {
            was = office.kept;
            office.kept = v;
        } else {
            return BAD;
        }
        toldStands = false;
        return was;
    }

    public int handing(int week, int virtue) {
        toldStands = false;
        return handings.add(week, virtue);
    }

    public int claim(int week, int claimant) {
        toldStands = false;
        return claims.add(week, claimant);
    }

    public int back(int what) {
        if (outside(what, 2)) {
            return BAD;
        }
        Book book = what == 0 ? handings : claims;
        if (book.size == 0) {
            return NOT;
        }
        toldStands = false;
        book.size--;
        return book.size;
    }

    public int read(int s) {
        if (outside(s, SHEETS)) {
            return BAD;
        }
        Sheet sheet = sheets[s];
        if (sheet.isLost()) {
            return found(NULL);
        }
        int took = 0;
        for (int i = 0; i + 1 < sheet.size; i += 2) {
            if (claim(sheet.items[i], sheet.items[i + 1]) < 0) {
                break;
            }
            took++;
        }
        return took;
    }

    // ---- weeks

    public int behind(int week, int what) {
        if (outside(week, WEEKS) || outside(what, 3)) {
            return BAD;
        }
        Run run = toldRun();
        if (what == 0) {
            return run.shelfBehind[week];
        }
        return what == 1 ? run.givenBehind[week] : run.soldBehind[week];
    }

    public int gone(int virtue, int what) {
        if (noVirtue(virtue) || outside(what, 2)) {
            return BAD;
        }
        Run run = toldRun();
        return what == 0 ? run.taker[virtue] : run.goneWeek[virtue];
    }

    public int empty() {
        long served = toldRun().served;
        int all = (1 << claims.size) - 1;
        return all & ~(int) served;
    }

    public int sale() {
        int sold = toldRun().sold;
        int worth = 0;
        for (int v = 0; v < virtues.whole; v++) {
            if ((sold >> v & 1) == 1) {
                worth += virtues.figure[v];
            }
        }
        return worth;
    }

    public int saint() {
        return toldRun().saint;
    }

    // ---- whose it is

    public int fitting(int what, int i) {
        if (what == 0) {
            return noClaimant(i) ? BAD : office.virtuesFittedBy(i);
        }
        if (what == 1) {
            return noVirtue(i) ? BAD : office.claimantsFitting(i);
        }
        return BAD;
    }

    public int match(int i) {
        if (i < HOW_MANY || i >= MOST) {
            return BAD;
        }
        long row = bestRows().matched;
        if (i == HOW_MANY) {
            return Rows.countOf(row);
        }
        return i == NONE ? Rows.worthOf(row) : Rows.otherOf(row, i);
    }

    public int ask(int claimant) {
        if (noClaimant(claimant)) {
            return BAD;
        }
        int fitted = office.virtuesFittedBy(claimant);
        int best = NONE;
        int least = MOST + 1;
        for (int sort = 0; sort < SORTS; sort++) {
            if ((claimants.said[claimant] >> sort & 1) == 1) {
                continue;
            }
            int high = office.highOf(fitted, sort);
            int greater = Math.max(high, Integer.bitCount(fitted) - high);
            if (greater < least) {
                least = greater;
                best = sort;
            }
        }
        return best;
    }

    public int lie(int virtue) {
        if (noVirtue(virtue)) {
            return BAD;
        }
        int best = NONE;
        int fewest = SORTS + 1;
        // Ascending sets, so of like numbers of sorts the least bits are met first.
        for (int sorts = 0; sorts < SORT_SETS; sorts++) {
            int number = Integer.bitCount(sorts);
            if (number >= office.enough && number < fewest && office.onlyOneSuch(virtue, sorts)) {
                fewest = number;
                best = sorts;
            }
        }
        return best;
    }

    public long guess(int virtue, int what) {
        if (noVirtue(virtue) || outside(what, 2)) {
            return LEAST_LONG - BAD;
        }
        int alike = office.alikeInOpen(virtue, office.secret);
        int most = office.mostOfOneKind(alike);
        int all = Integer.bitCount(alike);
        int shared = greatestDivisor(most, all);
        return what == 0 ? most / shared : all / shared;
    }

    public int guard(int sixteenths) {
        if (outside(sixteenths, SIXTEENTHS + 1)) {
            return BAD;
        }
        int best = NONE;
        int fewest = SORTS + 1;
        for (int sorts = 0; sorts < SORT_SETS; sorts++) {
            int number = Integer.bitCount(sorts);
            if (number < fewest && guarded(sorts, sixteenths)) {
                fewest = number;
                best = sorts;
            }
        }
        return best;
    }

    public int shelves(int i) {
        if (i < NONE || i >= SHELVES_MOST) {
            return BAD;
        }
        int shelved = Math.min(virtues.whole, SHELVES_MOST);
        int steps = 0;
        for (int v = 0; v < shelved; v++) {
            int place = shelfPlace(v, shelved);
            if (place == i) {
                return v;
            }
            steps += (place + 1) * office.wantedBy(v);
        }
        return i == NONE ? steps : NONE;
    }

    public int together(int i) {
        if (i < NONE || i >= MOST) {
            return BAD;
        }
        long row = bestRows().paired;
        return i == NONE ? Rows.countOf(row) : Rows.otherOf(row, i);
    }

    // ---- seen, lots

    public int seen(int week, int virtue, int is) {
        return sightings.add(week, virtue, is);
    }

    public int forget() {
        int had = sightings.size;
        sightings.size = 0;
        return had;
    }

    public int when(int virtue) {
        if (noVirtue(virtue)) {
            return BAD;
        }
        trial.load(handings, claims);
        int weeks = 0;
        for (int week = 0; week < WHEN_WEEKS; week++) {
            if (comesOutSo(week, virtue)) {
                weeks |= 1 << week;
            }
        }
        return weeks;
    }

    public int weeks(int seed, int n, int what) {
        if (n < 1 || n > WEEKS || outside(what, 2)) {
            return BAD;
        }
        trial.load(handings, claims);
        drawLots(seed, n);
        trial.play(n - 1);
        return Integer.bitCount(what == 0 ? trial.given : trial.sold);
    }

    // ---- sheets

    public int sheet(int s, int form, int n) {
        if (outside(s, SHEETS) || outside(form, FORMS) || n > Sheet.MOST_ITEMS) {
            return BAD;
        }
        if (n < 0) {
            return found(SIZE);
        }
        sheets[s].renew(form, n);
        return n;
    }

    public int lose(int s) {
        if (outside(s, SHEETS)) {
            return BAD;
        }
        Sheet sheet = sheets[s];
        if (sheet.isLost()) {
            return found(NULL);
        }
        int had = sheet.size;
        sheet.size = Sheet.LOST;
        return had;
    }

    public int put(int s, int form, int i, int v) {
        if (outside(s, SHEETS) || outside(form, FORMS)) {
            return BAD;
        }
        int finding = sheets[s].findingAt(form, i);
        if (finding != 0) {
            return found(finding);
        }
        sheets[s].store(i, v);
        return 1;
    }

    public int get(int s, int form, int i) {
        if (outside(s, SHEETS) || outside(form, FORMS)) {
            return LEAST_INT;
        }
        int finding = sheets[s].findingAt(form, i);
        if (finding != 0) {
            latestFinding = finding;
            return LEAST_INT;
        }
        return sheets[s].items[i];
    }

    public int copy(int s, int i, int t, int j, int n) {
        if (outside(s, SHEETS) || outside(t, SHEETS)) {
            return BAD;
        }
        Sheet from = sheets[s];
        Sheet to = sheets[t];
        if (from.isLost() || to.isLost()) {
            return found(NULL);
        }
        if (from.form != to.form) {
            return found(STORE);
        }
        if (!from.hasRange(i, n) || !to.hasRange(j, n)) {
            return found(INDEX);
        }
        System.arraycopy(from.items, i, to.items, j, n);
        return 1;
    }

    public int write(int s) {
        if (outside(s, SHEETS)) {
            return BAD;
        }
        Sheet sheet = sheets[s];
        if (sheet.isLost()) {
            return found(NULL);
        }
        Run run = toldRun();
        int number = Math.min(sheet.size, WEEKS);
        for (int week = 0; week < number; week++) {
            sheet.store(week, run.shelfBehind[week]);
        }
        return number;
    }

    public int count(int what) {
        switch (what) {
            case 0: return virtues.whole;
            case 1: return claimants.whole;
            case 2: return virtues.size;
            case 3: return claimants.size;
            case 4: return handings.size;
            case 5: return claims.size;
            case 6: return sightings.size;
            case 7: return office.worthOfAll();
            case 8: return latestFinding;
            default: return BAD;
        }
    }

    public long digest() {
        long h = 17;
        for (int what = 0; what <= 7; what++) {
            h = mixed(h, count(what));
        }
        h = mixed(h, fault(0));
        h = mixed(h, fault(1));
        for (int v = 0; v < virtues.whole; v++) {
            h = virtueMixed(h, v);
        }
        for (int c = 0; c < claimants.whole; c++) {
            h = claimantMixed(h, c);
        }
        h = weekMixed(h, 0);
        h = weekMixed(h, 1);
        h = weekMixed(h, 5);
        h = weekMixed(h, WEEKS - 1);
        return wholeMixed(h);
    }

    private static long mixed(long h, long answer) {
        return 31 * h + answer;
    }

    private long virtueMixed(long before, int v) {
        long h = mixed(before, virtue(v, 0));
        h = mixed(h, virtue(v, 1));
        h = mixed(h, gone(v, 0));
        h = mixed(h, gone(v, 1));
        h = mixed(h, fitting(1, v));
        h = mixed(h, match(v));
        h = mixed(h, lie(v));
        h = mixed(h, guess(v, 0));
        h = mixed(h, guess(v, 1));
        h = mixed(h, together(v));
        return mixed(h, when(v));
    }

    private long claimantMixed(long before, int c) {
        long h = mixed(before, claimant(c, 0));
        h = mixed(h, claimant(c, 1));
        h = mixed(h, claimant(c, 2));
        h = mixed(h, fitting(0, c));
        return mixed(h, ask(c));
    }

    private long weekMixed(long before, int week) {
        long h = mixed(before, behind(week, 0));
        h = mixed(h, behind(week, 1));
        return mixed(h, behind(week, 2));
    }

    private long wholeMixed(long before) {
        long h = mixed(before, empty());
        h = mixed(h, sale());
        h = mixed(h, saint());
        h = mixed(h, match(HOW_MANY));
        h = mixed(h, match(NONE));
        h = mixed(h, guard(8));
        h = mixed(h, shelves(NONE));
        h = mixed(h, shelves(0));
        h = mixed(h, together(NONE));
        h = mixed(h, weeks(7, 20, 0));
        return mixed(h, weeks(7, 20, 1));
    }

    private static boolean outside(int number, int bound) {
        return number < 0 || number >= bound;
    }

    private boolean noVirtue(int v) {
        return outside(v, virtues.whole);
    }

    private boolean noClaimant(int c) {
        return outside(c, claimants.whole);
    }

    private Entries textOf(int text) {
        return text == 0 ? virtues : claimants;
    }

    private void textChanged() {
        toldStands = false;
        rowsStand = false;
    }

    private int found(int finding) {
        latestFinding = finding;
        return FINDINGS - finding;
    }

    private Run toldRun() {
        if (!toldStands) {
            told.load(handings, claims);
            told.play(WEEKS - 1);
            toldStands = true;
        }
        return told;
    }

    private Rows bestRows() {
        if (!rowsStand) {
            rows.findMatch(office);
            rows.findPairs(virtues);
            rowsStand = true;
        }
        return rows;
    }

    private static int greatestDivisor(int a, int b) {
        for (int d = Math.min(a, b); d > 1; d--) {
            if (a % d == 0 && b % d == 0) {
                return d;
            }
        }
        return 1;
    }

    private boolean guarded(int sorts, int sixteenths) {
        for (int v = 0; v < virtues.whole; v++) {
            int alike = office.alikeInOpen(v, sorts);
            if (office.mostOfOneKind(alike) * SIXTEENTHS > sixteenths * Integer.bitCount(alike)) {
                return false;
            }
        }
        return true;
    }

    /** Steps are least when the more wanted stand first; like ones by number make the least row. */
    private int shelfPlace(int virtue, int shelved) {
        int wanted = office.wantedBy(virtue);
        int place = 0;
        for (int v = 0; v < shelved; v++) {
            int other = office.wantedBy(v);
            if (other > wanted || (other == wanted && v < virtue)) {
                place++;
            }
        }
        return place;
    }

    private boolean comesOutSo(int week, int virtue) {
        int before = trial.handed[week];
        trial.hand(week, virtue);
        trial.play(sightings.lastWeek());
        trial.handed[week] = before;
        return sightings.agreeWith(trial.shelfBehind);
    }

    private void drawLots(int start, int n) {
        int ofVirtues = virtues.whole;
        int ofClaimants = claimants.whole;
        if (ofVirtues == 0 || ofClaimants == 0) {
            return;
        }
        int seed = start;
        for (int week = 0; week < n; week++) {
            seed = nextSeed(seed);
            trial.hand(week, (seed >>> 16) % ofVirtues);
            seed = nextSeed(seed);
            trial.come(week, (seed >>> 16) % ofClaimants, TOLD_MOST + week);
        }
    }

    private static int nextSeed(int seed) {
        return 1103515245 * seed + 12345;
    }

    /**
     * A text of four letters and a figure each, read byte by byte as it is typed. The bytes are
     * not kept: what an undone byte told is told anew before its entry is whole again.
     */
    private static final class Entries {
        static final int BYTES = 47;
        private static final int STRIDE = 6;

        private final boolean mayBeVague;
        final int[] said = new int[MOST];
        final int[] high = new int[MOST];
        final int[] figure = new int[MOST];
        int size;
        int whole;
        private int wrong = NONE;

        Entries(boolean mayBeVague) {
            this.mayBeVague = mayBeVague;
        }

        void add(int b) {
            if (wrong == NONE && !takes(b)) {
                wrong = size;
            }
            size++;
            countWhole();
        }

        void dropLast() {
            size--;
            if (wrong == size) {
                wrong = NONE;
            }
            countWhole();
        }

        void clear() {
            size = 0;
            wrong = NONE;
            whole = 0;
        }

        private void countWhole() {
            whole = faultPlace() == NONE ? (size + 1) / STRIDE : 0;
        }

        int faultPlace() {
            if (wrong != NONE) {
                return wrong;
            }
            return size == 0 || size % STRIDE == STRIDE - 1 ? NONE : size;
        }

        private boolean takes(int b) {
            int entry = size / STRIDE;
            int place = size % STRIDE;
            if (entry >= MOST) {
                return false;
            }
            if (place < SORTS) {
                return takesLetter(entry, 1 << place, b);
            }
            return place == SORTS ? takesFigure(entry, b) : b == ';';
        }

        private boolean takesLetter(int entry, int bit, int b) {
            said[entry] &= ~bit;
            high[entry] &= ~bit;
            if (b == '?') {
                return mayBeVague;
            }
            said[entry] |= bit;
            if (b == 'h') {
                high[entry] |= bit;
            }
            return b == 'h' || b == 'l';
        }

        private boolean takesFigure(int entry, int b) {
            figure[entry] = b - '0';
            return b >= '0' && b <= '9';
        }
    }

    /** Who FITS what, and the rules of the office. */
    private static final class Office {
        private final Entries virtues;
        private final Entries claimants;
        int enough = 2;
        int secret;
        int kept = 3;

        Office(Entries virtues, Entries claimants) {
            this.virtues = virtues;
            this.claimants = claimants;
        }

        private boolean isFitting(int claimant, int virtue) {
            int unlike = claimants.high[claimant] ^ virtues.high[virtue];
            return (unlike & claimants.said[claimant]) == 0;
        }

        int virtuesFittedBy(int claimant) {
            int bits = 0;
            for (int v = 0; v < virtues.whole; v++) {
                if (isFitting(claimant, v)) {
                    bits |= 1 << v;
                }
            }
            return bits;
        }

        int claimantsFitting(int virtue) {
            int bits = 0;
            for (int c = 0; c < claimants.whole; c++) {
                if (isFitting(c, virtue)) {
                    bits |= 1 << c;
                }
            }
            return bits;
        }

        int wantedBy(int virtue) {
            return Integer.bitCount(claimantsFitting(virtue));
        }

        boolean saysEnough(int claimant) {
            return Integer.bitCount(claimants.said[claimant]) >= enough;
        }

        int worthOfAll() {
            int worth = 0;
            for (int v = 0; v < virtues.whole; v++) {
                worth += virtues.figure[v];
            }
            return worth;
        }

        /** Of some VIRTUES, the one of the least WORTH, of like ones the least; NONE. */
        int leastWorthOf(int some) {
            int best = NONE;
            for (int v = 0; v < virtues.whole; v++) {
                boolean isOne = (some >> v & 1) == 1;
                if (isOne && (best == NONE || virtues.figure[v] < virtues.figure[best])) {
                    best = v;
                }
            }
            return best;
        }

        /** How many of some VIRTUES are h in a sort. */
        int highOf(int some, int sort) {
            int number = 0;
            for (int v = 0; v < virtues.whole; v++) {
                number += some >> v & virtues.high[v] >> sort & 1;
            }
            return number;
        }

        /** VIRTUES with like marks as a told one in all of some sorts. */
        private int alikeIn(int virtue, int sorts) {
            int bits = 0;
            for (int v = 0; v < virtues.whole; v++) {
                if (((virtues.high[v] ^ virtues.high[virtue]) & sorts) == 0) {
                    bits |= 1 << v;
                }
            }
            return bits;
        }

        int alikeInOpen(int virtue, int secretSorts) {
            return alikeIn(virtue, SORT_SETS - 1 & ~secretSorts);
        }

        boolean onlyOneSuch(int virtue, int sorts) {
            return alikeIn(virtue, sorts) == 1 << virtue;
        }

        /** The greatest number among some VIRTUES that have all marks alike. */
        int mostOfOneKind(int some) {
            int most = 0;
            for (int v = 0; v < virtues.whole; v++) {
                if ((some >> v & 1) == 1) {
                    int kind = alikeIn(v, SORT_SETS - 1) & some;
                    most = Math.max(most, Integer.bitCount(kind));
                }
            }
            return most;
        }
    }

    /** HANDINGS or CLAIMS, in the order told. */
    private static final class Book {
        final int[] week = new int[TOLD_MOST];
        final int[] who = new int[TOLD_MOST];
        int size;

        int add(int inWeek, int number) {
            if (outside(inWeek, WEEKS) || outside(number, MOST)) {
                return BAD;
            }
            if (size >= TOLD_MOST) {
                return FULL;
            }
            week[size] = inWeek;
            who[size] = number;
            size++;
            return size;
        }
    }

    /** All that was SEEN. */
    private static final class Sightings {
        private static final int SEEN_MOST = 8;

        private final int[] week = new int[SEEN_MOST];
        private final int[] virtue = new int[SEEN_MOST];
        private final int[] was = new int[SEEN_MOST];
        int size;

        int add(int inWeek, int number, int is) {
            if (outside(inWeek, WEEKS) || outside(number, MOST) || outside(is, 2)) {
                return BAD;
            }
            if (size >= SEEN_MOST) {
                return FULL;
            }
            week[size] = inWeek;
            virtue[size] = number;
            was[size] = is;
            size++;
            return size;
        }

        int lastWeek() {
            int last = NONE;
            for (int i = 0; i < size; i++) {
                last = Math.max(last, week[i]);
            }
            return last;
        }

        boolean agreeWith(int[] shelfBehind) {
            for (int i = 0; i < size; i++) {
                if ((shelfBehind[week[i]] >> virtue[i] & 1) != was[i]) {
                    return false;
                }
            }
            return true;
        }
    }

    /** The WEEKS as they go, with what is told and perhaps more. */
    private static final class Run {
        /** A CLAIM in the queue is one number: by WEEK, how RICH, as told, then who comes. */
        private static final int INDEX_STEP = 8, RICH_STEP = 64 * INDEX_STEP, WEEK_STEP = 10 * RICH_STEP;

        private final Office office;
        final int[] handed = new int[WEEKS];
        private final int[] queue = new int[TOLD_MOST + WEEKS];
        private int queued;
        private final int[] fitted = new int[MOST];
        private final int[] allowed = new int[MOST];
        private final int[] arrived = new int[WEEKS];
        final int[] shelfBehind = new int[WEEKS];
        final int[] givenBehind = new int[WEEKS];
        final int[] soldBehind = new int[WEEKS];
        final int[] taker = new int[MOST];
        final int[] goneWeek = new int[MOST];
        private int shelf;
        int given;
        int sold;
        long served;
        int saint;

        Run(Office office) {
            this.office = office;
        }

        void load(Book handings, Book claims) {
            Arrays.fill(handed, 0);
            queued = 0;
            for (int c = 0; c < office.claimants.whole; c++) {
                fitted[c] = office.virtuesFittedBy(c);
                allowed[c] = office.saysEnough(c) ? fitted[c] : 0;
            }
            for (int i = 0; i < handings.size; i++) {
                hand(handings.week[i], handings.who[i]);
            }
            for (int i = 0; i < claims.size; i++) {
                come(claims.week[i], claims.who[i], i);
            }
        }

        void hand(int week, int virtue) {
            if (virtue < office.virtues.whole) {
                handed[week] |= 1 << virtue;
            }
        }

        void come(int week, int who, int index) {
            if (who >= office.claimants.whole || queued >= queue.length) {
                return;
            }
            int rich = office.claimants.figure[who];
            int ticket = week * WEEK_STEP + rich * RICH_STEP + index * INDEX_STEP + who;
            int at = queued;
            while (at > 0 && queue[at - 1] > ticket) {
                queue[at] = queue[at - 1];
                at--;
            }
            queue[at] = ticket;
            queued++;
        }

        /** WEEKS from 0 to a last one (none, if that is NONE). */
        void play(int last) {
            begin();
            int next = 0;
            for (int week = 0; week <= last && week < WEEKS; week++) {
                bringIn(week);
                while (next < queued && queue[next] / WEEK_STEP == week) {
                    serve(week, queue[next]);
                    next++;
                }
                sell(week);
                shelfBehind[week] = shelf;
                givenBehind[week] = given;
                soldBehind[week] = sold;
            }
        }

        private void begin() {
            Arrays.fill(taker, NONE);
            Arrays.fill(goneWeek, NONE);
            shelf = 0;
            given = 0;
            sold = 0;
            served = 0;
            saint = NONE;
        }

        private void bringIn(int week) {
            int everHere = shelf | given | sold;
            arrived[week] = handed[week] & ~everHere;
            shelf |= arrived[week];
        }

        private void serve(int week, int ticket) {
            int who = ticket % INDEX_STEP;
            int index = ticket % RICH_STEP / INDEX_STEP;
            int one = office.leastWorthOf(shelf & allowed[who]);
            if (one != NONE) {
                give(week, who, one);
                served |= 1L << index;
            } else if (saint == NONE && ((given | sold) & fitted[who]) != 0) {
                saint = index;
            }
        }

        private void give(int week, int who, int one) {
            shelf &= ~(1 << one);
            given |= 1 << one;
            taker[one] = who;
            goneWeek[one] = week;
        }

        private void sell(int week) {
            int came = week - office.kept + 1;
            int old = came < 0 ? 0 : shelf & arrived[came];
            if (old == 0) {
                return;
            }
            shelf &= ~old;
            sold |= old;
            for (int v = 0; v < MOST; v++) {
                if ((old >> v & 1) == 1) {
                    goneWeek[v] = week;
                }
            }
        }
    }

    /**
     * MATCH and TOGETHER. A row is one number, the greater the better: how many, then the WORTH,
     * then a digit for each VIRTUE from 0 on, greater for a lesser other one, 0 for none.
     */
    private static final class Rows {
        private static final int SETS = 1 << MOST;
        private static final int DIGIT = 4, WORTH_AT = DIGIT * MOST, COUNT_AT = WORTH_AT + 8;
        private static final long ONE_MORE = 1L << COUNT_AT;

        private final long[] best = new long[SETS];
        long matched;
        long paired;

        static int countOf(long row) {
            return (int) (row >> COUNT_AT);
        }

        static int worthOf(long row) {
            return (int) (row >> WORTH_AT) & 255;
        }

        static int otherOf(long row, int virtue) {
            int digit = (int) (row >> DIGIT * (MOST - 1 - virtue)) & 15;
            return digit == 0 ? NONE : MOST - digit;
        }

        private static long digit(int virtue, int other) {
            return (long) (MOST - other) << DIGIT * (MOST - 1 - virtue);
        }

        /** best: by CLAIMANTS taken already, the best row of the VIRTUES looked at so far. */
        void findMatch(Office office) {
            Arrays.fill(best, 0);
            int sets = 1 << office.claimants.whole;
            for (int v = office.virtues.whole - 1; v >= 0; v--) {
                int fitting = office.claimantsFitting(v);
                long worth = (long) office.virtues.figure[v] << WORTH_AT;
                // Ascending, as each set looks at greater ones, still without this VIRTUE.
                for (int taken = 0; taken < sets; taken++) {
                    best[taken] = withOneMore(v, fitting & ~taken, taken, worth);
                }
            }
            matched = best[0];
        }

        private long withOneMore(int virtue, int free, int taken, long worth) {
            long most = best[taken];
            for (int c = 0; free >> c != 0 && c < MOST; c++) {
                if ((free >> c & 1) == 1) {
                    long row = best[taken | 1 << c] + ONE_MORE + worth + digit(virtue, c);
                    most = Math.max(most, row);
                }
            }
            return most;
        }

        /** best: by VIRTUES that are left, their best row. */
        void findPairs(Entries virtues) {
            int sets = 1 << virtues.whole;
            best[0] = 0;
            for (int left = 1; left < sets; left++) {
                best[left] = firstPaired(virtues, left);
            }
            paired = best[sets - 1];
        }

        private long firstPaired(Entries virtues, int left) {
            int first = Integer.numberOfTrailingZeros(left);
            int rest = left & left - 1;
            long most = best[rest];
            for (int v = first + 1; v < virtues.whole; v++) {
                int unlike = virtues.high[first] ^ virtues.high[v];
                if ((rest >> v & 1) == 1 && Integer.bitCount(unlike) == 1) {
                    long row = best[rest & ~(1 << v)] + ONE_MORE + digit(first, v) + digit(v, first);
                    most = Math.max(most, row);
                }
            }
            return most;
        }
    }

    /** A row of a FORM, or LOST. */
    private static final class Sheet {
        static final int MOST_ITEMS = 48;
        static final int LOST = -1;

        final int[] items = new int[MOST_ITEMS];
        int size = LOST;
        int form;

        boolean isLost() {
            return size == LOST;
        }

        void renew(int ofForm, int n) {
            form = ofForm;
            size = n;
            Arrays.fill(items, 0);
        }

        /** The number of the FINDING at an item treated as of a FORM; 0 if there is none. */
        int findingAt(int asForm, int i) {
            if (isLost()) {
                return NULL;
            }
            if (form != asForm) {
                return CAST;
            }
            return outside(i, size) ? INDEX : 0;
        }

        boolean hasRange(int from, int n) {
            return from >= 0 && n >= 0 && from <= size - n;
        }

        void store(int i, int v) {
            if (form == 0) {
                items[i] = (byte) v;
            } else {
                items[i] = form == 1 ? (short) v : v;
            }
        }
    }
}
