import java.util.ArrayList;
import java.util.Arrays;
import java.util.HashMap;
import java.util.List;
import java.util.Map;
import java.util.Random;

/** Runs of calls by a seed, each answer against a plain model that tries all rows and keeps nothing. */
public final class ModelTest {
    static final int NONE = -1, BAD = -2, NOT = -3, FULL = -4;

    record Thing(String letters, int figure) { }
    record Told(int week, int who) { }
    record Sight(int week, int virtue, int is) { }

    /** What came of some WEEKS. */
    static final class Outcome {
        final List<List<Integer>> shelf = new ArrayList<>();
        final List<int[]> behind = new ArrayList<>();
        final Map<Integer, Integer> taker = new HashMap<>();
        final Map<Integer, Integer> goneWeek = new HashMap<>();
        final List<Integer> soldOnes = new ArrayList<>();
        final List<Integer> givenClaims = new ArrayList<>();
        int saint = NONE;
    }

    static final class Model {
        final StringBuilder[] text = {new StringBuilder(), new StringBuilder()};
        int enough = 2, secret = 0, kept = 3, finding = 0;
        final List<Told> handings = new ArrayList<>(), claims = new ArrayList<>();
        final List<Sight> sights = new ArrayList<>();
        final int[][] sheets = new int[4][];
        final int[] forms = new int[4];
        final Map<String, int[]> matches = new HashMap<>();

        static boolean in(int x, int low, int high) { return x >= low && x <= high; }

        int type(int t, int b) {
            if (!in(t, 0, 1) || !in(b, 0, 255)) return BAD;
            if (text[t].length() == 47) return FULL;
            text[t].append((char) b);
            return text[t].length();
        }
        int wipe(int t) {
            if (!in(t, 0, 1)) return BAD;
            int had = text[t].length();
            text[t].setLength(0);
            return had;
        }
        int undo(int t) {
            if (!in(t, 0, 1)) return BAD;
            if (text[t].length() == 0) return NOT;
            text[t].setLength(text[t].length() - 1);
            return text[t].length();
        }
        /** The longest beginning of the text that some well text has; the text ends well or that is its FAULT. */
        int fault(int t) {
            if (!in(t, 0, 1)) return BAD;
            String all = text[t].toString();
            if (all.isEmpty()) return NONE;
            String letter = t == 0 ? "lh" : "lh?";
            String[] fill = {"l", "l", "l", "l", "0", ";"};
            String well = "[" + letter + "]{4}[0-9](;[" + letter + "]{4}[0-9]){0,7}";
            if (all.matches(well)) return NONE;
            int longest = 0;
            for (int n = 1; n <= all.length(); n++) {
                StringBuilder trial = new StringBuilder(all.substring(0, n));
                while (trial.length() % 6 != 5) trial.append(fill[trial.length() % 6]);
                if (!trial.toString().matches(well)) break;
                longest = n;
            }
            return longest;
        }
        List<Thing> things(int t) {
            List<Thing> all = new ArrayList<>();
            if (text[t].length() == 0 || fault(t) != NONE) return all;
            for (String part : text[t].toString().split(";")) all.add(new Thing(part.substring(0, 4), part.charAt(4) - '0'));
            return all;
        }
        static int bitsOf(String letters, String which) {
            int bits = 0;
            for (int k = 0; k < 4; k++) if (which.indexOf(letters.charAt(k)) >= 0) bits += 1 << k;
            return bits;
        }
        static boolean fits(Thing claimant, Thing virtue) {
            for (int k = 0; k < 4; k++) {
                char said = claimant.letters.charAt(k);
                if (said != '?' && said != virtue.letters.charAt(k)) return false;
            }
            return true;
        }
        static int says(Thing claimant) { return claimant.letters.replace("?", "").length(); }

        int virtue(int v, int what) {
            List<Thing> all = things(0);
            if (v < 0 || v >= all.size() || !in(what, 0, 1)) return BAD;
            return what == 0 ? bitsOf(all.get(v).letters, "h") : all.get(v).figure;
        }
        int claimant(int c, int what) {
            List<Thing> all = things(1);
            if (c < 0 || c >= all.size() || !in(what, 0, 2)) return BAD;
            Thing one = all.get(c);
            return what == 0 ? bitsOf(one.letters, "lh") : what == 1 ? bitsOf(one.letters, "h") : one.figure;
        }
        int set(int what, int v) {
            int was;
            if (what == 0) { if (!in(v, 0, 4)) return BAD; was = enough; enough = v; return was; }
            if (what == 1) { if (!in(v, 0, 15)) return BAD; was = secret; secret = v; return was; }
            if (what == 2) { if (!in(v, 1, 9)) return BAD; was = kept; kept = v; return was; }
            return BAD;
        }
        int tell(List<Told> book, int week, int who) {
            if (!in(week, 0, 39) || !in(who, 0, 7)) return BAD;
            if (book.size() == 12) return FULL;
            book.add(new Told(week, who));
            return book.size();
        }
        int back(int what) {
            if (!in(what, 0, 1)) return BAD;
            List<Told> book = what == 0 ? handings : claims;
            if (book.isEmpty()) return NOT;
            book.remove(book.size() - 1);
            return book.size();
        }
        int found(int number) { finding = number; return -10 - number; }
        int read(int s) {
            if (!in(s, 0, 3)) return BAD;
            if (sheets[s] == null) return found(1);
            int took = 0;
            while (2 * took + 1 < sheets[s].length && tell(claims, sheets[s][2 * took], sheets[s][2 * took + 1]) > 0) took++;
            return took;
        }

        Outcome run(List<Told> hands, List<Told> comes, int weeks) {
            List<Thing> virtues = things(0), people = things(1);
            Outcome out = new Outcome();
            List<Integer> shelf = new ArrayList<>();
            Map<Integer, Integer> since = new HashMap<>();
            for (int week = 0; week < weeks; week++) {
                for (Told hand : hands) {
                    if (hand.week != week || hand.who >= virtues.size() || since.containsKey(hand.who)) continue;
                    since.put(hand.who, week);
                    shelf.add(hand.who);
                }
                for (int rich = 0; rich <= 9; rich++) {
                    for (int i = 0; i < comes.size(); i++) {
                        Told come = comes.get(i);
                        if (come.week != week || come.who >= people.size() || people.get(come.who).figure != rich) continue;
                        serve(out, shelf, virtues, people.get(come.who), come, i);
                    }
                }
                for (int v = 0; v < virtues.size(); v++) {
                    if (shelf.contains(v) && week - since.get(v) + 1 >= kept) {
                        shelf.remove(Integer.valueOf(v));
                        out.soldOnes.add(v);
                        out.goneWeek.put(v, week);
                    }
                }
                out.shelf.add(new ArrayList<>(shelf));
                out.behind.add(new int[] {bits(shelf), bits(new ArrayList<>(out.taker.keySet())), bits(out.soldOnes)});
            }
            return out;
        }
        void serve(Outcome out, List<Integer> shelf, List<Thing> virtues, Thing person, Told come, int i) {
            int best = NONE;
            for (int v = 0; v < virtues.size() && says(person) >= enough; v++) {
                if (!shelf.contains(v) || !fits(person, virtues.get(v))) continue;
                if (best == NONE || virtues.get(v).figure < virtues.get(best).figure) best = v;
            }
            if (best != NONE) {
                shelf.remove(Integer.valueOf(best));
                out.taker.put(best, come.who);
                out.goneWeek.put(best, come.week);
                out.givenClaims.add(i);
                return;
            }
            for (int v : out.goneWeek.keySet()) if (out.saint == NONE && fits(person, virtues.get(v))) out.saint = i;
        }
        static int bits(List<Integer> some) {
            int bits = 0;
            for (int x : some) bits |= 1 << x;
            return bits;
        }
        Outcome told() { return run(handings, claims, 40); }
        int behind(int week, int what) {
            if (!in(week, 0, 39) || !in(what, 0, 2)) return BAD;
            return told().behind.get(week)[what];
        }
        int gone(int v, int what) {
            if (v < 0 || v >= things(0).size() || !in(what, 0, 1)) return BAD;
            return (what == 0 ? told().taker : told().goneWeek).getOrDefault(v, NONE);
        }
        int empty() {
            int bits = 0;
            Outcome out = told();
            for (int i = 0; i < claims.size(); i++) if (!out.givenClaims.contains(i)) bits |= 1 << i;
            return bits;
        }
        int sale() {
            int sum = 0;
            for (int v : told().soldOnes) sum += things(0).get(v).figure;
            return sum;
        }
        int saint() { return told().saint; }

        int fitting(int what, int i) {
            if (!in(what, 0, 1)) return BAD;
            List<Thing> virtues = things(0), people = things(1);
            if (i < 0 || i >= (what == 0 ? people : virtues).size()) return BAD;
            int bits = 0;
            for (int k = 0; k < (what == 0 ? virtues : people).size(); k++) {
                if (what == 0 ? fits(people.get(i), virtues.get(k)) : fits(people.get(k), virtues.get(i))) bits |= 1 << k;
            }
            return bits;
        }

        /** Whether a row (many, worth, others with 99 for none) is better than another one. */
        static boolean better(int[] a, int[] b) {
            if (b == null) return true;
            if (a[0] != b[0]) return a[0] > b[0];
            if (a[1] != b[1]) return a[1] > b[1];
            for (int k = 2; k < 10; k++) if (a[k] != b[k]) return a[k] < b[k];
            return false;
        }
        int[] best;
        int[] bestMatch() {
            String key = text[0] + " " + text[1];
            if (!matches.containsKey(key)) {
                best = null;
                int[] row = new int[10];
                Arrays.fill(row, 2, 10, 99);
                tryMatch(things(0), things(1), 0, new boolean[8], row);
                matches.put(key, best);
            }
            return matches.get(key);
        }
        void tryMatch(List<Thing> virtues, List<Thing> people, int v, boolean[] used, int[] row) {
            if (v == virtues.size()) {
                if (better(row, best)) best = row.clone();
                return;
            }
            tryMatch(virtues, people, v + 1, used, row);
            for (int c = 0; c < people.size(); c++) {
                if (used[c] || !fits(people.get(c), virtues.get(v))) continue;
                used[c] = true;
                row[0]++;
                row[1] += virtues.get(v).figure;
                row[2 + v] = c;
                tryMatch(virtues, people, v + 1, used, row);
                row[2 + v] = 99;
                row[1] -= virtues.get(v).figure;
                row[0]--;
                used[c] = false;
            }
        }
        static int orNone(int other) { return other == 99 ? NONE : other; }
        int match(int i) {
            if (!in(i, -2, 7)) return BAD;
            return i < 0 ? bestMatch()[i + 2] : orNone(bestMatch()[2 + i]);
        }
        int[] bestPairs() {
            best = null;
            int[] row = new int[10];
            Arrays.fill(row, 2, 10, 99);
            tryPairs(things(0), 0, row);
            return best;
        }
        static int unlike(Thing a, Thing b) {
            int number = 0;
            for (int k = 0; k < 4; k++) if (a.letters.charAt(k) != b.letters.charAt(k)) number++;
            return number;
        }
        void tryPairs(List<Thing> virtues, int v, int[] row) {
            if (v == virtues.size()) {
                if (better(row, best)) best = row.clone();
                return;
            }
            tryPairs(virtues, v + 1, row);
            for (int u = v + 1; u < virtues.size() && row[2 + v] == 99; u++) {
                if (row[2 + u] != 99 || unlike(virtues.get(u), virtues.get(v)) != 1) continue;
                row[0]++;
                row[2 + u] = v;
                row[2 + v] = u;
                tryPairs(virtues, v + 1, row);
                row[2 + v] = 99;
                row[2 + u] = 99;
                row[0]--;
            }
        }
        int together(int i) {
            if (!in(i, -1, 7)) return BAD;
            return i < 0 ? bestPairs()[0] : orNone(bestPairs()[2 + i]);
        }
        int ask(int c) {
            if (c < 0 || c >= things(1).size()) return BAD;
            Thing person = things(1).get(c);
            int answer = NONE, least = 0;
            for (int k = 0; k < 4; k++) {
                if (person.letters.charAt(k) != '?') continue;
                int[] number = new int[2];
                for (int w = 0; w < 2; w++) {
                    String said = person.letters.substring(0, k) + "lh".charAt(w) + person.letters.substring(k + 1);
                    for (Thing v : things(0)) if (fits(new Thing(said, 0), v)) number[w]++;
                }
                int greater = Math.max(number[0], number[1]);
                if (answer == NONE || greater < least) { answer = k; least = greater; }
            }
            return answer;
        }
        int lie(int v) {
            List<Thing> virtues = things(0);
            if (v < 0 || v >= virtues.size()) return BAD;
            for (int number = enough; number <= 4; number++) {
                for (int sorts = 0; sorts < 16; sorts++) {
                    if (Integer.bitCount(sorts) != number) continue;
                    StringBuilder said = new StringBuilder();
                    for (int k = 0; k < 4; k++) said.append((sorts >> k & 1) == 1 ? virtues.get(v).letters.charAt(k) : '?');
                    int fitted = 0;
                    for (Thing other : virtues) if (fits(new Thing(said.toString(), 0), other)) fitted++;
                    if (fitted == 1) return sorts;
                }
            }
            return NONE;
        }
        static String part(String letters, int sorts) {
            StringBuilder some = new StringBuilder();
            for (int k = 0; k < 4; k++) if ((sorts >> k & 1) == 1) some.append(letters.charAt(k));
            return some.toString();
        }
        int[] guessOf(int v, int hidden) {
            List<Thing> virtues = things(0);
            Map<String, Integer> kinds = new HashMap<>();
            int all = 0, most = 0;
            for (Thing other : virtues) {
                if (!part(other.letters, 15 - hidden).equals(part(virtues.get(v).letters, 15 - hidden))) continue;
                all++;
                most = Math.max(most, kinds.merge(part(other.letters, hidden), 1, Integer::sum));
            }
            return new int[] {most, all};
        }
        long guess(int v, int what) {
            if (v < 0 || v >= things(0).size() || !in(what, 0, 1)) return Long.MIN_VALUE + 2;
            int[] g = guessOf(v, secret);
            int shared = java.math.BigInteger.valueOf(g[0]).gcd(java.math.BigInteger.valueOf(g[1])).intValue();
            return g[what] / shared;
        }
        int guard(int sixteenths) {
            if (!in(sixteenths, 0, 16)) return BAD;
            for (int number = 0; number <= 4; number++) {
                for (int sorts = 0; sorts < 16; sorts++) {
                    if (Integer.bitCount(sorts) != number) continue;
                    boolean well = true;
                    for (int v = 0; v < things(0).size(); v++) {
                        int[] g = guessOf(v, sorts);
                        if (16 * g[0] > sixteenths * g[1]) well = false;
                    }
                    if (well) return sorts;
                }
            }
            return NONE;
        }
        int leastSteps;
        List<Integer> leastRow;
        int shelves(int i) {
            if (!in(i, -1, 5)) return BAD;
            leastSteps = Integer.MAX_VALUE;
            tryRow(Math.min(6, things(0).size()), new ArrayList<>(), 0);
            if (i == NONE) return leastSteps;
            return i < leastRow.size() ? leastRow.get(i) : NONE;
        }
        void tryRow(int n, List<Integer> row, int steps) {
            if (row.size() == n && steps < leastSteps) {
                leastSteps = steps;
                leastRow = new ArrayList<>(row);
            }
            for (int v = 0; v < n; v++) {
                if (row.contains(v)) continue;
                row.add(v);
                tryRow(n, row, steps + row.size() * Integer.bitCount(fitting(1, v)));
                row.remove(row.size() - 1);
            }
        }
        int seen(int week, int v, int is) {
            if (!in(week, 0, 39) || !in(v, 0, 7) || !in(is, 0, 1)) return BAD;
            if (sights.size() == 8) return FULL;
            sights.add(new Sight(week, v, is));
            return sights.size();
        }
        int forget() {
            int had = sights.size();
            sights.clear();
            return had;
        }
        int when(int v) {
            if (v < 0 || v >= things(0).size()) return BAD;
            int weeks = 0;
            for (int week = 0; week < 20; week++) {
                List<Told> more = new ArrayList<>(handings);
                more.add(new Told(week, v));
                Outcome out = run(more, claims, 40);
                boolean so = true;
                for (Sight s : sights) if (out.shelf.get(s.week).contains(s.virtue) != (s.is == 1)) so = false;
                if (so) weeks |= 1 << week;
            }
            return weeks;
        }
        int weeks(int seed, int n, int what) {
            if (!in(n, 1, 40) || !in(what, 0, 1)) return BAD;
            List<Told> hands = new ArrayList<>(handings), comes = new ArrayList<>(claims);
            int[] lot = {seed};
            for (int week = 0; week < n && !things(0).isEmpty() && !things(1).isEmpty(); week++) {
                hands.add(new Told(week, draw(lot, things(0).size())));
                comes.add(new Told(week, draw(lot, things(1).size())));
            }
            Outcome out = run(hands, comes, n);
            return what == 0 ? out.taker.size() : out.soldOnes.size();
        }
        static int draw(int[] lot, int m) {
            lot[0] = (int) (1103515245L * lot[0] + 12345L);
            return (int) (((long) lot[0] & 0xffffffffL) / 65536) % m;
        }
        int sheet(int s, int form, int n) {
            if (!in(s, 0, 3) || !in(form, 0, 2) || n > 48) return BAD;
            if (n < 0) return found(5);
            sheets[s] = new int[n];
            forms[s] = form;
            return n;
        }
        int lose(int s) {
            if (!in(s, 0, 3)) return BAD;
            if (sheets[s] == null) return found(1);
            int had = sheets[s].length;
            sheets[s] = null;
            return had;
        }
        int at(int s, int form, int i) {
            if (!in(s, 0, 3) || !in(form, 0, 2)) return BAD;
            if (sheets[s] == null) return found(1);
            if (forms[s] != form) return found(3);
            return i < 0 || i >= sheets[s].length ? found(2) : 0;
        }
        int cut(int form, int v) { return form == 0 ? v << 24 >> 24 : form == 1 ? v << 16 >> 16 : v; }
        int put(int s, int form, int i, int v) {
            int refusal = at(s, form, i);
            if (refusal != 0) return refusal;
            sheets[s][i] = cut(form, v);
            return 1;
        }
        int get(int s, int form, int i) { return at(s, form, i) != 0 ? Integer.MIN_VALUE : sheets[s][i]; }
        int copy(int s, int i, int t, int j, int n) {
            if (!in(s, 0, 3) || !in(t, 0, 3)) return BAD;
            if (sheets[s] == null || sheets[t] == null) return found(1);
            if (forms[s] != forms[t]) return found(4);
            if (i < 0 || j < 0 || n < 0 || (long) i + n > sheets[s].length || (long) j + n > sheets[t].length) return found(2);
            int[] were = sheets[s].clone();
            for (int k = 0; k < n; k++) sheets[t][j + k] = were[i + k];
            return 1;
        }
        int write(int s) {
            if (!in(s, 0, 3)) return BAD;
            if (sheets[s] == null) return found(1);
            int n = Math.min(40, sheets[s].length);
            for (int week = 0; week < n; week++) sheets[s][week] = cut(forms[s], behind(week, 0));
            return n;
        }
        int count(int what) {
            if (!in(what, 0, 8)) return BAD;
            int worth = 0;
            for (Thing v : things(0)) worth += v.figure;
            return new int[] {things(0).size(), things(1).size(), text[0].length(), text[1].length(), handings.size(),
                claims.size(), sights.size(), worth, finding}[what];
        }
        long digest() {
            List<Long> all = new ArrayList<>();
            for (int k = 0; k < 8; k++) all.add((long) count(k));
            all.add((long) fault(0));
            all.add((long) fault(1));
            for (int v = 0; v < things(0).size(); v++) {
                for (int x : new int[] {virtue(v, 0), virtue(v, 1), gone(v, 0), gone(v, 1), fitting(1, v), match(v), lie(v)}) all.add((long) x);
                all.add(guess(v, 0));
                all.add(guess(v, 1));
                all.add((long) together(v));
                all.add((long) when(v));
            }
            for (int c = 0; c < things(1).size(); c++) {
                for (int x : new int[] {claimant(c, 0), claimant(c, 1), claimant(c, 2), fitting(0, c), ask(c)}) all.add((long) x);
            }
            for (int week : new int[] {0, 1, 5, 39}) for (int what = 0; what < 3; what++) all.add((long) behind(week, what));
            for (int x : new int[] {empty(), sale(), saint(), match(-2), match(-1), guard(8), shelves(-1), shelves(0), together(-1),
                weeks(7, 20, 0), weeks(7, 20, 1)}) all.add((long) x);
            long h = 17;
            for (long x : all) h = 31 * h + x;
            return h;
        }
    }

    static final String[] NAMES = {"type", "wipe", "undo", "fault", "virtue", "claimant", "set", "handing", "claim", "back", "read",
        "behind", "gone", "empty", "sale", "saint", "fitting", "match", "ask", "lie", "guess", "guard", "shelves", "together", "seen",
        "forget", "when", "weeks", "sheet", "lose", "put", "get", "copy", "write", "count", "digest"};
    static int wrong = 0;
    static long calls = 0;

    static long real(FoundVirtues x, int op, int[] a) {
        switch (NAMES[op]) {
            case "type": return x.type(a[0], a[1]);
            case "wipe": return x.wipe(a[0]);
            case "undo": return x.undo(a[0]);
            case "fault": return x.fault(a[0]);
            case "virtue": return x.virtue(a[0], a[1]);
            case "claimant": return x.claimant(a[0], a[1]);
            case "set": return x.set(a[0], a[1]);
            case "handing": return x.handing(a[0], a[1]);
            case "claim": return x.claim(a[0], a[1]);
            case "back": return x.back(a[0]);
            case "read": return x.read(a[0]);
            case "behind": return x.behind(a[0], a[1]);
            case "gone": return x.gone(a[0], a[1]);
            case "empty": return x.empty();
            case "sale": return x.sale();
            case "saint": return x.saint();
            case "fitting": return x.fitting(a[0], a[1]);
            case "match": return x.match(a[0]);
            case "ask": return x.ask(a[0]);
            case "lie": return x.lie(a[0]);
            case "guess": return x.guess(a[0], a[1]);
            case "guard": return x.guard(a[0]);
            case "shelves": return x.shelves(a[0]);
            case "together": return x.together(a[0]);
            case "seen": return x.seen(a[0], a[1], a[2]);
            case "forget": return x.forget();
            case "when": return x.when(a[0]);
            case "weeks": return x.weeks(a[0], a[1], a[2]);
            case "sheet": return x.sheet(a[0], a[1], a[2]);
            case "lose": return x.lose(a[0]);
            case "put": return x.put(a[0], a[1], a[2], a[3]);
            case "get": return x.get(a[0], a[1], a[2]);
            case "copy": return x.copy(a[0], a[1], a[2], a[3], a[4]);
            case "write": return x.write(a[0]);
            case "count": return x.count(a[0]);
            default: return x.digest();
        }
    }

    static long due(Model x, int op, int[] a) {
        switch (NAMES[op]) {
            case "type": return x.type(a[0], a[1]);
            case "wipe": return x.wipe(a[0]);
            case "undo": return x.undo(a[0]);
            case "fault": return x.fault(a[0]);
            case "virtue": return x.virtue(a[0], a[1]);
            case "claimant": return x.claimant(a[0], a[1]);
            case "set": return x.set(a[0], a[1]);
            case "handing": return x.tell(x.handings, a[0], a[1]);
            case "claim": return x.tell(x.claims, a[0], a[1]);
            case "back": return x.back(a[0]);
            case "read": return x.read(a[0]);
            case "behind": return x.behind(a[0], a[1]);
            case "gone": return x.gone(a[0], a[1]);
            case "empty": return x.empty();
            case "sale": return x.sale();
            case "saint": return x.saint();
            case "fitting": return x.fitting(a[0], a[1]);
            case "match": return x.match(a[0]);
            case "ask": return x.ask(a[0]);
            case "lie": return x.lie(a[0]);
            case "guess": return x.guess(a[0], a[1]);
            case "guard": return x.guard(a[0]);
            case "shelves": return x.shelves(a[0]);
            case "together": return x.together(a[0]);
            case "seen": return x.seen(a[0], a[1], a[2]);
            case "forget": return x.forget();
            case "when": return x.when(a[0]);
            case "weeks": return x.weeks(a[0], a[1], a[2]);
            case "sheet": return x.sheet(a[0], a[1], a[2]);
            case "lose": return x.lose(a[0]);
            case "put": return x.put(a[0], a[1], a[2], a[3]);
            case "get": return x.get(a[0], a[1], a[2]);
            case "copy": return x.copy(a[0], a[1], a[2], a[3], a[4]);
            case "write": return x.write(a[0]);
            case "count": return x.count(a[0]);
            default: return x.digest();
        }
    }

    static int op(String name) { return Arrays.asList(NAMES).indexOf(name); }

    /** A number mostly within 0 .. n - 1, now and then at or beyond an edge. */
    static int about(Random r, int n) {
        int kind = r.nextInt(30);
        if (kind == 0) return r.nextInt();
        if (kind == 1) return -1 - r.nextInt(3);
        if (kind == 2) return n + r.nextInt(3);
        if (kind == 3) return r.nextBoolean() ? Integer.MAX_VALUE : Integer.MIN_VALUE;
        return r.nextInt(n);
    }

    static int[] arguments(Random r, String name) {
        switch (name) {
            case "type": return new int[] {about(r, 2), r.nextInt(4) == 0 ? about(r, 256) : "lh?;0123456789".charAt(r.nextInt(14))};
            case "virtue": return new int[] {about(r, 8), about(r, 2)};
            case "claimant": return new int[] {about(r, 8), about(r, 3)};
            case "set": return new int[] {about(r, 3), about(r, r.nextBoolean() ? 6 : 16)};
            case "handing": case "claim": return new int[] {about(r, r.nextBoolean() ? 5 : 40), about(r, 8)};
            case "read": case "lose": case "write": return new int[] {about(r, 4)};
            case "behind": return new int[] {about(r, r.nextBoolean() ? 8 : 40), about(r, 3)};
            case "gone": case "guess": return new int[] {about(r, 8), about(r, 2)};
            case "fitting": return new int[] {about(r, 2), about(r, 8)};
            case "match": case "together": case "ask": case "lie": case "when": return new int[] {about(r, 11) - 2};
            case "guard": return new int[] {about(r, 17)};
            case "shelves": return new int[] {about(r, 8) - 1};
            case "seen": return new int[] {about(r, r.nextBoolean() ? 5 : 40), about(r, 8), about(r, 2)};
            case "weeks": return new int[] {r.nextInt(), about(r, 41), about(r, 2)};
            case "sheet": return new int[] {about(r, 4), about(r, 3), about(r, 49)};
            case "put": return new int[] {about(r, 4), about(r, 3), about(r, 12), r.nextBoolean() ? r.nextInt() : r.nextInt(10)};
            case "get": return new int[] {about(r, 4), about(r, 3), about(r, 40)};
            case "copy": return new int[] {about(r, 4), about(r, 20), about(r, 4), about(r, 20), about(r, 20)};
            case "count": return new int[] {about(r, 9)};
            default: return new int[] {about(r, 2)};
        }
    }

    static void call(int run, FoundVirtues x, Model m, String name, int... a) {
        long want = due(m, op(name), a);
        long got = real(x, op(name), a);
        calls++;
        if (got != want && wrong++ < 20) {
            System.out.println("run " + run + ": " + name + Arrays.toString(a) + " answered " + got + ", the model " + want
                + " (texts " + m.text[0] + " " + m.text[1] + ")");
        }
    }

    static int typeThings(int run, FoundVirtues x, Model m, Random r, int text, int left) {
        String letters = text == 0 ? "lh" : r.nextInt(4) == 0 ? "lh???" : "llhh?";
        int things = r.nextInt(4) == 0 ? 8 : r.nextInt(9);
        int used = 0;
        for (int k = 0; k < 6 * things - 1 && used < left; k++, used++) {
            int b = k % 6 < 4 ? letters.charAt(r.nextInt(letters.length())) : k % 6 == 4 ? '0' + r.nextInt(r.nextBoolean() ? 3 : 10) : ';';
            call(run, x, m, "type", text, b);
        }
        return used;
    }

    static void oneRun(int run) {
        Random r = new Random(run);
        FoundVirtues x = new FoundVirtues();
        Model m = new Model();
        int left = 40 + r.nextInt(460);
        left -= typeThings(run, x, m, r, 0, left);
        left -= typeThings(run, x, m, r, 1, left);
        boolean texts = r.nextInt(3) == 0;
        while (left-- > 0) {
            String name = NAMES[r.nextInt(NAMES.length)];
            boolean ofTexts = name.equals("type") || name.equals("wipe") || name.equals("undo");
            if (ofTexts && !texts && r.nextInt(20) != 0) name = r.nextBoolean() ? "handing" : "claim";
            if (name.equals("wipe") && r.nextInt(4) != 0) name = "undo";
            if (name.equals("forget") && r.nextBoolean()) name = "seen";
            if (name.equals("digest") && r.nextInt(4) != 0) name = "when";
            call(run, x, m, name, arguments(r, name));
            if (name.equals("wipe") && r.nextBoolean()) left -= typeThings(run, x, m, r, r.nextInt(2), Math.max(0, left));
        }
    }

    public static void main(String[] args) {
        int runs = args.length > 0 ? Integer.parseInt(args[0]) : 600;
        for (int run = 0; run < runs; run++) oneRun(run);
        System.out.println(calls + " calls in " + runs + " runs, " + wrong + " unlike the model");
        if (wrong != 0) System.exit(1);
    }
}
