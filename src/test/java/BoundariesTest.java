import java.util.ArrayList;
import java.util.Arrays;
import java.util.List;

/**
 * Each sentence of the document that names an edge, by a test of its own: the last that is taken and the
 * first that is not, on both sides; nothing there yet, and full; a wrap-around. RefusalsTest has the refusals.
 */
public final class BoundariesTest {
    static final int NONE = -1, BAD = -2, NOT = -3, FULL = -4;
    static final int NULL = -11, INDEX = -12, CAST = -13, STORE = -14, SIZE = -15;
    static final int MIN = Integer.MIN_VALUE, MAX = Integer.MAX_VALUE;
    static final int ALL_WEEKS = (1 << 20) - 1;
    static int wrong = 0;
    static int asked = 0;
    static String sentence = "";

    static void due(String what, long want, long got) {
        asked++;
        if (want != got) {
            wrong++;
            System.out.println(sentence + ": " + what + " answered " + got + ", due is " + want);
        }
    }

    static void type(FoundVirtues x, int text, String bytes) {
        for (int i = 0; i < bytes.length(); i++) x.type(text, bytes.charAt(i));
    }

    static FoundVirtues office(String virtues, String claimants) {
        FoundVirtues x = new FoundVirtues();
        type(x, 0, virtues);
        type(x, 1, claimants);
        return x;
    }

    /** So many like entries. */
    static String times(int n, String entry) {
        return String.join(";", java.util.Collections.nCopies(n, entry));
    }

    static final String EIGHT = "llll0;hlll1;lhll2;hhll3;llhl4;hlhl5;lhhl6;hhhl7";

    // ======== 1: texts

    static void upTo47Bytes() {
        sentence = "a text of up to 47 bytes";
        for (int text = 0; text < 2; text++) {
            FoundVirtues x = new FoundVirtues();
            for (int n = 1; n <= 47; n++) due("byte " + n, n, x.type(text, 'x'));
            due("the 48th", FULL, x.type(text, 'x'));
            due("bytes", 47, x.count(2 + text));
            due("the other text", 0, x.count(3 - text));
            due("the other text takes one", 1, x.type(1 - text, 'l'));
            due("undo of a full one", 46, x.undo(text));
            due("room again", 47, x.type(text, 'x'));
            due("full again", FULL, x.type(text, 'x'));
            due("wipe of a full one", 47, x.wipe(text));
            due("room behind wipe", 1, x.type(text, 'x'));
        }
    }

    static void aByteIs0To255() {
        sentence = "a byte (0 to 255)";
        FoundVirtues x = new FoundVirtues();
        due("0", 1, x.type(0, 0));
        due("255", 2, x.type(0, 255));
        due("-1", BAD, x.type(0, -1));
        due("256", BAD, x.type(0, 256));
        due("least", BAD, x.type(0, MIN));
        due("greatest", BAD, x.type(0, MAX));
        due("256 and l is no l", BAD, x.type(1, 256 + 'l'));
        due("bytes of text 0", 2, x.count(2));
        due("bytes of text 1", 0, x.count(3));
    }

    static void textsAre0And1() {
        sentence = "text 0, text 1";
        FoundVirtues x = office("llll1", "llll1");
        for (int text : new int[] {-1, 2, MIN, MAX}) {
            due("type", BAD, x.type(text, 'l'));
            due("wipe", BAD, x.wipe(text));
            due("undo", BAD, x.undo(text));
            due("fault", BAD, x.fault(text));
        }
        due("wipe 0", 5, x.wipe(0));
        due("1 stands", 1, x.count(1));
        due("wipe 1", 5, x.wipe(1));
    }

    static void eightAtMost() {
        sentence = "8 at most (0 on)";
        for (int n = 0; n <= 8; n++) {
            FoundVirtues x = office(times(n, "hhhh9"), times(n, "hh??8"));
            due("how many", n, x.count(0));
            due("how many", n, x.count(1));
            due("well", NONE, x.fault(0));
            due("well", NONE, x.fault(1));
            due("the last", n == 0 ? BAD : 15, x.virtue(n - 1, 0));
            due("the last", n == 0 ? BAD : 8, x.claimant(n - 1, 2));
            due("the one behind", BAD, x.virtue(n, 0));
            due("the one behind", BAD, x.claimant(n, 2));
            due("0", n == 0 ? BAD : 9, x.virtue(0, 1));
            due("0", n == 0 ? BAD : 3, x.claimant(0, 0));
        }
        FoundVirtues x = office(EIGHT, EIGHT);
        due("a ; behind eight", FULL, x.type(0, ';'));
        due("a ; behind eight", FULL, x.type(1, ';'));
        due("eight stay", 8, x.count(0));
        due("eight stay", 8, x.count(1));
    }

    /** At each place of the first, second and last entry each byte: what may come there and no other. */
    static void eachByteAtEachPlace() {
        sentence = "with ; between them: four letters and a figure";
        for (int text = 0; text < 2; text++) {
            String[] may = text == 0 ? new String[] {"lh", "0123456789", ";"} : new String[] {"lh?", "0123456789", ";"};
            for (int entry : new int[] {0, 1, 7}) {
                for (int place = 0; place < (entry == 7 ? 5 : 6); place++) {
                    String before = EIGHT.substring(0, 6 * entry + place);
                    String taken = may[Math.max(0, place - 3)];
                    for (int b = 0; b < 256; b++) oneByte(text, before, b, taken.indexOf(b) >= 0, place);
                }
            }
        }
    }

    static void oneByte(int text, String before, int b, boolean taken, int place) {
        FoundVirtues x = new FoundVirtues();
        type(x, text, before);
        x.type(text, b);
        int want = !taken ? before.length() : place == 4 ? NONE : before.length() + 1;
        due("text " + text + " " + before + " and byte " + b, want, x.fault(text));
        due("how many of it", want == NONE ? (before.length() + 2) / 6 : 0, x.count(text));
    }

    static void firstFault() {
        sentence = "the FAULT is the place of the first byte with which it cannot go on";
        FoundVirtues x = office("lxlyl", "");
        due("the first of two", 1, x.fault(0));
        x.undo(0);
        x.undo(0);
        due("the second undone", 1, x.fault(0));
        x.undo(0);
        due("bytes behind it undone", 1, x.fault(0));
        x.undo(0);
        due("it undone: not ended", 1, x.fault(0));
        type(x, 0, "hlh7");
        due("well", NONE, x.fault(0));
        due("read anew", 10, x.virtue(0, 0));
        due("read anew", 7, x.virtue(0, 1));
        FoundVirtues full = office(EIGHT.substring(0, 46) + "x", EIGHT);
        due("the 47th byte", 46, full.fault(0));
        due("of the other one none", NONE, full.fault(1));
        full.undo(0);
        due("its end", 46, full.fault(0));
        full.type(0, '9');
        due("well", NONE, full.fault(0));
        due("the last", 9, full.virtue(7, 1));
        FoundVirtues wild = new FoundVirtues();
        for (int n = 0; n < 47; n++) wild.type(1, 255);
        due("at the first byte", 0, wild.fault(1));
        wild.wipe(1);
        due("wiped", NONE, wild.fault(1));
    }

    /** At each place of an entry each byte that may come there, behind another one that is undone. */
    static void undoneAndTypedAnew() {
        sentence = "the last byte of a text is undone";
        String[] may = {"lh?x", "lh?x", "lh?x", "lh?x", "09x"};
        for (int text = 0; text < 2; text++) {
            for (int place = 0; place < 5; place++) {
                for (char first : may[place].toCharArray()) {
                    for (char second : may[place].toCharArray()) retype(text, place, first, second);
                }
            }
        }
    }

    static void retype(int text, int place, char first, char second) {
        String before = "hhhh1;" + "hlhl5".substring(0, place);
        String behind = "hlhl5".substring(place + 1);
        FoundVirtues x = new FoundVirtues();
        FoundVirtues y = new FoundVirtues();
        type(x, text, before + first + behind);
        for (int n = behind.length(); n >= 0; n--) due("left", before.length() + n, x.undo(text));
        type(x, text, second + behind);
        type(y, text, before + second + behind);
        due(first + " undone for " + second + " at " + place, y.digest(), x.digest());
        for (int what = 0; what < 3; what++) {
            due("of the last one", text == 0 ? y.virtue(1, what) : y.claimant(1, what), text == 0 ? x.virtue(1, what) : x.claimant(1, what));
        }
    }

    static void emptyIsWell() {
        sentence = "an empty one is well";
        FoundVirtues x = new FoundVirtues();
        for (int text = 0; text < 2; text++) {
            due("at first", NONE, x.fault(text));
            x.type(text, 'l');
            x.undo(text);
            due("undone", NONE, x.fault(text));
            x.type(text, 'x');
            x.wipe(text);
            due("wiped", NONE, x.fault(text));
            due("none", 0, x.count(text));
        }
    }

    static void notEnded() {
        sentence = "of one that is not ended, its end";
        FoundVirtues x = new FoundVirtues();
        for (int n = 1; n <= 47; n++) {
            for (int text = 0; text < 2; text++) {
                x.type(text, EIGHT.charAt(n - 1));
                due("of " + n + " bytes", n % 6 == 5 ? NONE : n, x.fault(text));
            }
        }
    }

    /** With a FAULT everything but the bytes and the FAULT is as with an empty text. */
    static void asIfEmpty() {
        sentence = "with a FAULT a text is as if it was empty";
        for (int text = 0; text < 2; text++) {
            FoundVirtues faulty = toldOffice();
            FoundVirtues empty = toldOffice();
            FoundVirtues well = toldOffice();
            faulty.type(text, ';');
            empty.wipe(text);
            due("text " + text, 1, all(faulty).equals(all(empty)) ? 1 : 0);
            due("text " + text + " was not", 0, all(well).equals(all(empty)) ? 1 : 0);
            faulty.undo(text);
            due("text " + text + " undone", 1, all(faulty).equals(all(well)) ? 1 : 0);
        }
    }

    static FoundVirtues toldOffice() {
        FoundVirtues x = office("llll5;hlll3;lhll2;hhhl9", "ll??3;h???0;l?l?4");
        for (int k = 0; k < 6; k++) {
            x.handing(k, k);
            x.claim(k + 1, k);
        }
        x.seen(1, 0, 1);
        return x;
    }

    static List<Long> all(FoundVirtues x) {
        List<Long> answers = new ArrayList<>();
        for (int k = 0; k < 4; k++) {
            for (int what = 0; what < 2; what++) {
                for (long a : new long[] {x.virtue(k, what), x.gone(k, what), x.guess(k, what), x.fitting(what, k), x.claimant(k, what)}) answers.add(a);
            }
            for (long a : new long[] {x.match(k), x.ask(k), x.lie(k), x.together(k), x.when(k), x.behind(k, 0), x.behind(k, 1)}) answers.add(a);
        }
        for (long a : new long[] {x.match(-2), x.match(-1), x.guard(8), x.shelves(-1), x.shelves(0), x.together(-1), x.empty(), x.sale(),
            x.saint(), x.weeks(3, 40, 0), x.weeks(3, 40, 1), x.count(0), x.count(1), x.count(4), x.count(5), x.count(7)}) answers.add(a);
        return answers;
    }

    static void marksAndFigures() {
        sentence = "MARKS as bits 0 to 3, a figure 0 to 9";
        for (int bits = 0; bits < 16; bits++) {
            for (int figure : new int[] {0, 9}) {
                FoundVirtues x = office(letters(bits, 15) + figure, letters(bits, 15) + figure);
                due("marks", bits, x.virtue(0, 0));
                due("worth", figure, x.virtue(0, 1));
                due("says", 15, x.claimant(0, 0));
                due("says h", bits, x.claimant(0, 1));
                due("rich", figure, x.claimant(0, 2));
            }
        }
        for (int said = 0; said < 16; said++) {
            FoundVirtues x = office("", letters(15, said) + "4;" + letters(0, said) + "4");
            due("says", said, x.claimant(0, 0));
            due("says h", said, x.claimant(0, 1));
            due("says", said, x.claimant(1, 0));
            due("says no h", 0, x.claimant(1, 1));
        }
    }

    /** Four letters: h or l by bits where something is said, ? elsewhere. */
    static String letters(int high, int said) {
        StringBuilder four = new StringBuilder();
        for (int k = 0; k < 4; k++) four.append((said >> k & 1) == 0 ? '?' : (high >> k & 1) == 1 ? 'h' : 'l');
        return four.toString();
    }

    static void fits() {
        sentence = "a CLAIMANT FITS a VIRTUE, if all that it SAYS is so of it";
        for (int marks = 0; marks < 16; marks++) {
            for (int said = 0; said < 16; said++) {
                for (int high = 0; high < 16; high++) {
                    if ((high & ~said) != 0) continue;
                    String v = letters(marks, 15), c = letters(high, said);
                    boolean so = true;
                    for (int k = 0; k < 4; k++) if (c.charAt(k) != '?' && c.charAt(k) != v.charAt(k)) so = false;
                    FoundVirtues x = office(v + "1", c + "1");
                    due(c + " of " + v, so ? 1 : 0, x.fitting(0, 0));
                    due(v + " by " + c, so ? 1 : 0, x.fitting(1, 0));
                }
            }
        }
        FoundVirtues all = office(times(8, "hlhl0"), times(8, "????0"));
        for (int k = 0; k < 8; k++) due("eight of eight", 255, all.fitting(0, k) & all.fitting(1, k));
        FoundVirtues last = office(times(7, "hhhh0") + ";llll0", times(7, "hlhl0") + ";ll??0");
        due("the last VIRTUE", 128, last.fitting(0, 7));
        due("the last CLAIMANT", 128, last.fitting(1, 7));
        due("none", 0, last.fitting(1, 0));
        due("no CLAIMANTS", 0, office("llll1", "").fitting(1, 0));
        due("no VIRTUES", 0, office("", "????1").fitting(0, 0));
    }

    // ======== 1: rules and books

    static void enough() {
        sentence = "ENOUGH (0 to 4; 2 at first)";
        for (int sorts = 0; sorts < 16; sorts++) {
            int number = Integer.bitCount(sorts);
            FoundVirtues x = office("hlhl5", letters(5, sorts) + "0");
            x.handing(0, 0);
            x.claim(0, 0);
            due("at first, saying " + number, number >= 2 ? 0 : NONE, x.gone(0, 0));
            for (int told = 0; told <= 4; told++) {
                x.set(0, told);
                due("of " + told + ", saying " + number, number >= told ? 0 : NONE, x.gone(0, 0));
                due("EMPTY", number >= told ? 0 : 1, x.empty());
                x.set(0, 5);
                x.set(0, -1);
                due("as it was", number >= told ? 0 : NONE, x.gone(0, 0));
                due("FITS all the same", 1, x.fitting(0, 0));
                due("MATCH all the same", 1, x.match(-2));
            }
        }
    }

    static void secret() {
        sentence = "SECRET (none at first; 0 to 15)";
        FoundVirtues x = office("llll1;hlll1;lhll1;llhl1;lllh1", "");
        due("at first", 1, x.guess(0, 1));
        for (int k = 0; k < 4; k++) {
            x.set(1, 1 << k);
            due("sort " + k, 2, x.guess(0, 1));
            due("of that sort", 2, x.guess(k + 1, 1));
            due("of another sort", 1, x.guess((k + 1) % 4 + 1, 1));
        }
        due("15", 8, x.set(1, 15));
        due("all", 5, x.guess(0, 1));
        due("16", BAD, x.set(1, 16));
        due("-1", BAD, x.set(1, -1));
        due("all still", 5, x.guess(0, 1));
        due("0", 15, x.set(1, 0));
        due("none again", 1, x.guess(0, 1));
    }

    static void kept() {
        sentence = "in the KEPT-th WEEK (the one in which it came is the first) it is SOLD";
        for (int told = 1; told <= 9; told++) {
            for (int came : new int[] {0, 1, 20, 39 - told, 40 - told, 41 - told, 39}) {
                if (came > 39) continue;
                FoundVirtues x = office("hlhl5", "hlhl0");
                x.set(2, told);
                x.handing(came, 0);
                int sold = came + told - 1;
                due("KEPT " + told + " from " + came, sold > 39 ? NONE : sold, x.gone(0, 1));
                for (int week = 0; week < 40; week++) {
                    due("on the shelf behind " + week, week >= came && week < sold ? 1 : 0, x.behind(week, 0));
                    due("SOLD behind " + week, week >= sold ? 1 : 0, x.behind(week, 2));
                }
                due("SALE", sold > 39 ? 0 : 5, x.sale());
                claimedAround(x, came, sold);
            }
        }
    }

    static void claimedAround(FoundVirtues x, int came, int sold) {
        for (int week : new int[] {came - 1, came, sold, sold + 1}) {
            if (week < 0 || week > 39) continue;
            x.claim(week, 0);
            boolean given = week >= came && week <= sold;
            due("claimed in " + week + ", came in " + came, given ? 0 : NONE, x.gone(0, 0));
            due("GIVEN behind 39", given ? 1 : 0, x.behind(39, 1));
            due("SAINT", week > sold ? 0 : NONE, x.saint());
            x.back(1);
        }
    }

    static void keptAsToldNow() {
        sentence = "KEPT (1 to 9; 3 at first; for all WEEKS as it is told now)";
        FoundVirtues x = office("hlhl5", "");
        x.handing(4, 0);
        due("at first", 6, x.gone(0, 1));
        due("what it was", 3, x.set(2, 9));
        due("9", 12, x.gone(0, 1));
        due("10", BAD, x.set(2, 10));
        due("0", BAD, x.set(2, 0));
        due("still 9", 12, x.gone(0, 1));
        due("what it was", 9, x.set(2, 1));
        due("1", 4, x.gone(0, 1));
        due("1: not behind its first", 0, x.behind(4, 0));
        due("what it was", 1, x.set(2, 2));
        due("2", 5, x.gone(0, 1));
    }

    static void weeksAre0To39() {
        sentence = "WEEKS are 0 to 39";
        FoundVirtues x = office("hlhl5;hhhh2", "hlhl0;hhhh0");
        for (int week : new int[] {-1, 40, MIN, MAX}) {
            due("handing", BAD, x.handing(week, 0));
            due("claim", BAD, x.claim(week, 0));
            due("seen", BAD, x.seen(week, 0, 0));
            for (int what = 0; what < 3; what++) due("behind", BAD, x.behind(week, what));
        }
        due("handing in 0", 1, x.handing(0, 0));
        due("handing in 39", 2, x.handing(39, 1));
        due("behind 0", 1, x.behind(0, 0));
        due("behind 38", 0, x.behind(38, 0));
        due("behind 39", 2, x.behind(39, 0));
        due("claim in 39", 1, x.claim(39, 1));
        due("claim in 0", 2, x.claim(0, 0));
        due("given in 39", 39, x.gone(1, 1));
        due("given in 0", 0, x.gone(0, 1));
        due("given behind 0", 1, x.behind(0, 1));
        due("given behind 38", 1, x.behind(38, 1));
        due("given behind 39", 3, x.behind(39, 1));
        due("seen in 0", 1, x.seen(0, 0, 0));
        due("seen in 39", 2, x.seen(39, 0, 0));
    }

    static void twelveHandings() {
        sentence = "HANDINGS, 12 at most (0 on), of a VIRTUE (0 to 7)";
        FoundVirtues x = office(times(8, "hlhl5"), "");
        due("none at first", 0, x.count(4));
        for (int n = 1; n <= 11; n++) due("handing", n, x.handing(0, 0));
        due("virtue 8", BAD, x.handing(0, 8));
        due("virtue -1", BAD, x.handing(0, -1));
        due("the 12th", 12, x.handing(1, 7));
        due("the 13th", FULL, x.handing(1, 6));
        due("how many", 12, x.count(4));
        due("the 12th counts, the 13th does not", 129, x.behind(1, 0));
        due("back", 11, x.back(0));
        due("the 12th undone", 1, x.behind(1, 0));
        due("room again", 12, x.handing(1, 6));
        due("another 12th", 65, x.behind(1, 0));
        for (int n = 11; n >= 0; n--) due("back", n, x.back(0));
        due("none left", NOT, x.back(0));
        due("nothing there", 0, x.behind(1, 0));
        due("anew", 1, x.handing(1, 6));
    }

    static void twelveClaims() {
        sentence = "CLAIMS, 12 at most (0 on), of a CLAIMANT (0 to 7)";
        FoundVirtues x = office("hlhl5", times(7, "llll0") + ";hlhl9");
        x.handing(0, 0);
        due("none at first", 0, x.count(5));
        due("EMPTY of none", 0, x.empty());
        for (int n = 1; n <= 11; n++) due("claim", n, x.claim(0, 0));
        due("claimant 8", BAD, x.claim(0, 8));
        due("claimant -1", BAD, x.claim(0, -1));
        due("EMPTY of 11", 2047, x.empty());
        due("the 12th", 12, x.claim(0, 7));
        due("the 13th", FULL, x.claim(0, 7));
        due("how many", 12, x.count(5));
        due("EMPTY: the 12th is given", 2047, x.empty());
        due("to the last CLAIMANT", 7, x.gone(0, 0));
        due("back", 11, x.back(1));
        due("not given", NONE, x.gone(0, 0));
        due("another 12th", 12, x.claim(1, 0));
        due("EMPTY of 12", 4095, x.empty());
        for (int n = 11; n >= 0; n--) due("back", n, x.back(1));
        due("none left", NOT, x.back(1));
        due("HANDINGS stay", 1, x.count(4));
    }

    static void thatThereIs() {
        sentence = "a VIRTUE that there is, CLAIMANTS that there are";
        FoundVirtues x = new FoundVirtues();
        due("of no VIRTUES", 1, x.handing(0, 1));
        due("of no CLAIMANTS", 1, x.claim(0, 1));
        due("nothing on the shelf", 0, x.behind(0, 0));
        due("EMPTY all the same", 1, x.empty());
        type(x, 0, "hlhl5");
        due("one too few", 0, x.behind(0, 0));
        type(x, 0, ";hlhl4");
        due("now there is", 2, x.behind(0, 0));
        type(x, 1, "hlhl0");
        due("nobody yet", NONE, x.gone(1, 0));
        type(x, 1, ";hlhl0");
        due("now there is", 1, x.gone(1, 0));
        due("EMPTY no more", 0, x.empty());
        x.type(1, 'x');
        due("a FAULT of CLAIMANTS", 2, x.behind(0, 0));
        x.undo(1);
        x.type(0, 'x');
        due("a FAULT of VIRTUES", 0, x.behind(0, 1));
        due("no such VIRTUE", BAD, x.gone(1, 0));
    }

    static void neverWasOnTheShelf() {
        sentence = "that never was on the shelf; gone for good";
        FoundVirtues x = office("hlhl5", "hlhl0");
        x.handing(3, 0);
        x.handing(3, 0);
        x.handing(4, 0);
        due("handed in again, it is not kept longer", 5, x.gone(0, 1));
        x.handing(5, 0);
        due("not in the WEEK in which it is SOLD", 0, x.behind(5, 0));
        x.handing(6, 0);
        due("nor in the next", 0, x.behind(6, 0));
        x.claim(6, 0);
        due("SOLD, it is not GIVEN", NONE, x.gone(0, 0));
        x.claim(3, 0);
        due("GIVEN", 3, x.gone(0, 1));
        due("GIVEN, it does not come again", 0, x.behind(4, 0));
        due("nor is it SOLD", 0, x.behind(39, 2));
        x.handing(1, 0);
        due("the earliest, told last, counts", 3, x.gone(0, 1));
        due("it came in 1", 1, x.behind(1, 0));
        due("nor before", 0, x.behind(0, 0));
        FoundVirtues one = office("hlhl5", "hlhl0");
        one.set(2, 1);
        one.handing(3, 0);
        one.handing(4, 0);
        one.claim(4, 0);
        due("KEPT 1: it was on the shelf", 3, one.gone(0, 1));
        due("KEPT 1: SOLD", NONE, one.gone(0, 0));
    }

    static void orderOfClaims() {
        sentence = "those who are less RICH first, of like ones as told";
        for (int first = 0; first <= 9; first++) {
            for (int second : new int[] {0, 1, 5, 8, 9}) {
                FoundVirtues x = office("hlhl5", "hlhl" + first + ";hlhl" + second);
                x.handing(7, 0);
                x.claim(7, 1);
                x.claim(7, 0);
                due("RICH " + first + " told last, RICH " + second, first < second ? 0 : 1, x.gone(0, 0));
                due("EMPTY", first < second ? 1 : 2, x.empty());
                due("SAINT", first < second ? 0 : 1, x.saint());
            }
        }
        sentence = "by WEEKS, however RICH";
        FoundVirtues x = office("hlhl5", "hlhl9;hlhl0");
        x.handing(7, 0);
        x.claim(8, 1);
        x.claim(7, 0);
        due("the rich one came a WEEK ahead", 0, x.gone(0, 0));
        sentence = "one who comes twice";
        FoundVirtues y = office("hlhl5;hlhl5;hlhl5", "hlhl9");
        for (int v = 0; v < 3; v++) y.handing(7, v);
        y.claim(7, 0);
        y.claim(7, 0);
        due("is given two", 3, y.behind(7, 1));
    }

    static void leastWorth() {
        sentence = "the one of the least WORTH, of like ones the least";
        for (int a = 0; a <= 9; a++) {
            for (int b = 0; b <= 9; b++) {
                FoundVirtues x = office("llll0;hlhl" + a + ";hlhh" + b + ";hlhl0", "hlh?0");
                x.handing(0, 2);
                x.handing(0, 1);
                x.handing(0, 0);
                x.handing(1, 3);
                x.claim(0, 0);
                due("of WORTH " + a + ", " + b, a <= b ? 2 : 4, x.behind(0, 1));
            }
        }
    }

    // ======== 2: weeks

    static void emptySale() {
        sentence = "EMPTY: CLAIMS by which nothing is GIVEN, also of CLAIMANTS that there are not";
        FoundVirtues x = office(times(8, "hlhl9"), "hl??0");
        for (int v = 0; v < 8; v++) x.handing(5, v);
        for (int n = 0; n < 12; n++) x.claim(5, 0);
        due("eight for twelve", 0xf00, x.empty());
        due("GIVEN", 255, x.behind(5, 1));
        due("SAINT is the ninth", 8, x.saint());
        x.wipe(1);
        due("nobody there", 0xfff, x.empty());
        due("nobody there is no SAINT", NONE, x.saint());
        sentence = "SALE: WORTH of all that is SOLD (behind WEEK 39)";
        due("eight", 72, x.sale());
        x.wipe(0);
        due("no VIRTUES", 0, x.sale());
        due("of a new one", 0, new FoundVirtues().sale());
        due("never handed in", 0, office("hlhl9", "").sale());
    }

    static void goneNone() {
        sentence = "to whom it is GIVEN; NONE; the WEEK in which it is GIVEN or SOLD; NONE";
        FoundVirtues x = office("hlhl9;hlhl8;llll7;hhhh0", "hl??0");
        x.handing(0, 0);
        x.handing(1, 1);
        x.handing(39, 2);
        x.claim(1, 0);
        int[] whom = {NONE, 0, NONE, NONE}, when = {2, 1, NONE, NONE};
        for (int v = 0; v < 4; v++) {
            due("whom " + v, whom[v], x.gone(v, 0));
            due("when " + v, when[v], x.gone(v, 1));
        }
        due("the first that is not", BAD, x.gone(4, 0));
        FoundVirtues y = office(times(8, "hlhl9"), "");
        for (int v = 0; v < 8; v++) y.handing(3 * v, v);
        for (int v = 0; v < 8; v++) due("SOLD, " + v, 3 * v + 2, y.gone(v, 1));
        FoundVirtues z = office(times(8, "hlhl9"), times(7, "????0") + ";hl??0");
        for (int v = 0; v < 8; v++) {
            z.handing(3 * v, v);
            z.claim(3 * v + 1, 7);
        }
        for (int v = 0; v < 8; v++) due("GIVEN, " + v, 3 * v + 1, z.gone(v, 1));
        for (int v = 0; v < 8; v++) due("to the last one, " + v, 7, z.gone(v, 0));
        due("what 2", BAD, x.gone(0, 2));
        due("what -1", BAD, x.gone(0, -1));
    }

    static void saints() {
        sentence = "SAINT: FITS a VIRTUE that is gone ahead of it";
        FoundVirtues x = office("hlhl5", "hlhl3;hl??3;llll0;????9");
        due("no CLAIMS", NONE, x.saint());
        x.handing(2, 0);
        x.claim(1, 0);
        due("ahead of the HANDING", NONE, x.saint());
        x.claim(4, 2);
        due("FITS nothing", NONE, x.saint());
        x.claim(4, 3);
        due("in the WEEK in which it is SOLD, behind the CLAIMS", NONE, x.saint());
        x.claim(5, 3);
        due("a WEEK later", 3, x.saint());
        x.claim(4, 1);
        due("GIVEN in 4: the ????9 comes behind it", 2, x.saint());
        due("GIVEN", 1, x.gone(0, 0));
        x.back(1);
        x.claim(2, 0);
        due("GIVEN in 2: the first behind it in WEEK 4", 2, x.saint());
        x.claim(3, 0);
        due("who was given it FITS it, too", 5, x.saint());
        x.claim(2, 1);
        due("in the same WEEK, told later", 6, x.saint());
        due("GIVEN to the first told", 0, x.gone(0, 0));
        FoundVirtues y = office("hlhl5;hlhl6", "hlhl3;hl??5");
        y.handing(2, 0);
        y.handing(2, 1);
        y.claim(2, 1);
        y.claim(2, 0);
        due("both are given", NONE, y.saint());
        for (int n = 2; n < 11; n++) y.claim(0, 0);
        due("early ones are none", NONE, y.saint());
        y.claim(39, 0);
        due("the 12th, in the last WEEK", 11, y.saint());
        due("EMPTY", 0xffc, y.empty());
    }

    static void behindIsOfAllWeeks() {
        sentence = "behind a WEEK: VIRTUES on the shelf, GIVEN, SOLD";
        FoundVirtues x = office(times(8, "hlhl9"), "hl??0");
        for (int what = 0; what < 3; what++) due("nothing yet", 0, x.behind(39, what));
        for (int v = 0; v < 8; v++) x.handing(10, v);
        due("all on the shelf", 255, x.behind(10, 0));
        due("none before", 0, x.behind(9, 0));
        due("all in the next", 255, x.behind(11, 0));
        due("all SOLD", 255, x.behind(12, 2));
        due("none SOLD before", 0, x.behind(11, 2));
        due("SOLD for good", 255, x.behind(39, 2));
        for (int n = 0; n < 8; n++) x.claim(11, 0);
        due("all GIVEN", 255, x.behind(11, 1));
        due("none GIVEN before", 0, x.behind(10, 1));
        due("GIVEN for good", 255, x.behind(39, 1));
        due("none left", 0, x.behind(11, 0));
        due("what 3", BAD, x.behind(0, 3));
        due("what -1", BAD, x.behind(0, -1));
    }

    // ======== 2, 3: whose it is

    static void row(String what, FoundVirtues x, int many, int worth, int... others) {
        due(what + ", how many", many, x.match(-2));
        due(what + ", WORTH", worth, x.match(-1));
        for (int v = 0; v < 8; v++) due(what + ", of " + v, v < others.length ? others[v] : NONE, x.match(v));
    }

    static void match() {
        sentence = "MATCH";
        row("nothing", new FoundVirtues(), 0, 0);
        row("no CLAIMANTS", office(EIGHT, ""), 0, 0);
        row("no VIRTUES", office("", EIGHT), 0, 0);
        row("nobody FITS", office("hhhh9", "hhhl0;l???0"), 0, 0);
        row("eight", office(times(8, "hlhl9"), times(8, "????0")), 8, 72, 0, 1, 2, 3, 4, 5, 6, 7);
        row("of WORTH 0", office(times(8, "hlhl0"), times(8, "????0")), 8, 0, 0, 1, 2, 3, 4, 5, 6, 7);
        row("more VIRTUES", office(times(8, "hlhl9"), times(2, "????0")), 2, 18, 0, 1);
        row("more CLAIMANTS", office(times(2, "hlhl9"), times(8, "????0")), 2, 18, 0, 1);
        row("the greatest WORTH", office("hlhl8;hlhl9", "????0"), 1, 9, NONE, 0);
        row("none is more than any", office("hlhl9;hlhl9", "????0"), 1, 9, 0, NONE);
        row("the most ahead of the least row", office("hlhl1;hhhh1", "????0;hlhl0"), 2, 2, 1, 0);
        row("the WORTH ahead of the least row", office("hlhl1;hlhl2;hlhl3", "????0;????0"), 2, 5, NONE, 0, 1);
        row("only the last FITS", office("hlhl1", times(7, "hhhh0") + ";hlhl0"), 1, 1, 7);
        row("the last VIRTUE", office(times(7, "hhhh1") + ";hlhl1", "hl??0"), 1, 1, NONE, NONE, NONE, NONE, NONE, NONE, NONE, 0);
        row("a chain of all", office("llll0;lllh0;llhh0;lhhh0;hhhh0", "lll?0;ll?h0;l?hh0;?hhh0;llll0"), 5, 0, 4, 0, 1, 2, 3);
        FoundVirtues x = office("hlhl1", "????0");
        x.set(0, 4);
        row("ENOUGH aside", x, 1, 1, 0);
        x.handing(0, 0);
        row("gone or not", x, 1, 1, 0);
        due("-3", BAD, x.match(-3));
        due("8", BAD, x.match(8));
    }

    static void ask() {
        sentence = "ASK";
        for (int sort = 0; sort < 4; sort++) {
            FoundVirtues x = office("llll0;hhhh0", letters(0, 15 & ~(1 << sort)) + "0");
            due("the only one left", sort, x.ask(0));
        }
        FoundVirtues all = office("llll0;hhhh0", "llll0;hhhh9;lhlh4");
        for (int c = 0; c < 3; c++) due("it SAYS all", NONE, all.ask(c));
        due("no such", BAD, all.ask(3));
        due("FITS nothing: the least it says nothing of", 1, office("llll0", "h???0").ask(0));
        due("no VIRTUES: the least", 0, office("", "????0").ask(0));
        due("one VIRTUE: all alike", 0, office("hhhh0", "????0").ask(0));
        due("all of one mark tell nothing", 3, office("lllh0;llll0", "????0").ask(0));
        due("2 of 4 ahead of 1 of 4", 2, office("hlhh0;lhhh0;lhlh0;lhlh0", "????0").ask(0));
        due("eight of eight", 0, office(times(8, "hhhh0"), "????0").ask(0));
        due("eight of eight, all but the last said", 3, office(times(8, "hhhh0"), "hhh?0").ask(0));
        due("h or l alike", 0, office("hlll0;lhll0", "????0").ask(0));
        due("only of those it FITS", 2, office("llll0;llhl0;hhhh0;hlhh0;hlhh0", "l???0").ask(0));
        due("four of eight", 2, office(EIGHT.replace('0', '9'), "hh??0").ask(0));
    }

    static void lie() {
        sentence = "LIE";
        FoundVirtues alone = office("hlhl0", "");
        for (int told = 0; told <= 4; told++) {
            alone.set(0, told);
            due("alone, ENOUGH " + told, (1 << told) - 1, alone.lie(0));
        }
        FoundVirtues like = office("hlhl0;llll0;hlhl9", "");
        for (int told = 0; told <= 4; told++) {
            like.set(0, told);
            due("one of like marks, ENOUGH " + told, NONE, like.lie(0));
            due("one of like marks, ENOUGH " + told, NONE, like.lie(2));
            due("ENOUGH is said of the other", told < 2 ? 1 : (1 << told) - 1, like.lie(1));
        }
        FoundVirtues near = office("llll0;hlll0;lhll0;llhl0;lllh0", "");
        near.set(0, 0);
        due("all four are needed", 15, near.lie(0));
        for (int v = 1; v < 5; v++) due("one is", 1 << v - 1, near.lie(v));
        near.set(0, 2);
        int[] two = {15, 3, 3, 5, 9};
        for (int v = 0; v < 5; v++) due("one of ENOUGH 2", two[v], near.lie(v));
        FoundVirtues few = office("llhl0;llll0;hlll0;lhll0", "");
        few.set(0, 0);
        due("the fewest ahead of the least bits", 4, few.lie(0));
        FoundVirtues gone = office("hlhl0;hlll0", "");
        gone.set(0, 0);
        gone.handing(0, 1);
        due("were all on the shelf, the gone one, too", 4, gone.lie(0));
        gone.back(0);
        due("and one not handed in", 4, gone.lie(0));
        due("no such", BAD, gone.lie(2));
        due("no VIRTUES", BAD, new FoundVirtues().lie(0));
    }

    static void guessIs(String what, FoundVirtues x, int v, int above, int below) {
        due(what + ", above", above, x.guess(v, 0));
        due(what + ", below", below, x.guess(v, 1));
    }

    static void guess() {
        sentence = "GUESS, in lowest terms";
        FoundVirtues x = office(times(8, "hlhl0"), "");
        for (int told : new int[] {0, 1, 15}) {
            x.set(1, told);
            guessIs("8 of 8", x, 7, 1, 1);
        }
        for (int n = 1; n <= 8; n++) {
            for (int alike = 1; alike <= n; alike++) {
                if (n - alike > 7 || alike < n - alike) continue;
                FoundVirtues y = office(times(alike, "llll0") + (n > alike ? ";" + times(n - alike, "lllh0") : ""), "");
                y.set(1, 8);
                int shared = java.math.BigInteger.valueOf(alike).gcd(java.math.BigInteger.valueOf(n)).intValue();
                guessIs(alike + " of " + n, y, n - 1, alike / shared, n / shared);
            }
        }
        FoundVirtues unlike = office(EIGHT, "");
        unlike.set(1, 7);
        guessIs("1 of 8", unlike, 0, 1, 8);
        unlike.set(1, 15);
        guessIs("all SECRET", unlike, 7, 1, 8);
        unlike.set(1, 8);
        guessIs("all alike in what is SECRET", unlike, 7, 1, 1);
        unlike.set(1, 0);
        guessIs("none SECRET", unlike, 7, 1, 1);
        long bad = Long.MIN_VALUE + 2;
        due("no such", bad, unlike.guess(8, 0));
        due("no such", bad, unlike.guess(-1, 1));
        due("what 2", bad, unlike.guess(0, 2));
        due("what -1", bad, unlike.guess(0, -1));
        due("no VIRTUES", bad, new FoundVirtues().guess(0, 0));
    }

    /** GUARD by told sixteenths: below the first number NONE, from it on the first bits, and so on. */
    static void guards(String what, FoundVirtues x, int... steps) {
        for (int n = 0; n <= 16; n++) {
            int want = NONE;
            for (int k = 0; k < steps.length; k += 2) if (n >= steps[k]) want = steps[k + 1];
            due(what + ", " + n + " sixteenths", want, x.guard(n));
        }
    }

    static void guard() {
        sentence = "GUARD: no more than told sixteenths (0 to 16)";
        guards("no VIRTUES", new FoundVirtues(), 0, 0);
        guards("one", office("hlhl0", ""), 16, 0);
        guards("like ones", office(times(8, "hlhl0"), ""), 16, 0);
        guards("1 of 2", office("llll0;llhl0", ""), 8, 4, 16, 0);
        guards("1 of 2 by either sort", office("llll0;lhhl0", ""), 8, 6, 16, 0);
        guards("1 of 3 by two", office("llll0;llhl0;lhll0", ""), 6, 6, 16, 0);
        guards("2 of 3", office("llll0;llhl0;llhl0", ""), 11, 4, 16, 0);
        guards("1 of 4", office("llll0;hlll0;lhll0;hhll0", ""), 4, 3, 8, 1, 16, 0);
        guards("1 of 8", office(EIGHT, ""), 2, 7, 4, 3, 8, 1, 16, 0);
        guards("one alone by a sort", office("llll0;hlll0;hhhh0", ""), 6, 15, 16, 0);
        FoundVirtues x = office("llll0;llhl0", "");
        x.set(1, 4);
        guards("whatever is SECRET now", x, 8, 4, 16, 0);
        due("SECRET stays", 4, x.set(1, 0));
        due("17", BAD, x.guard(17));
        due("-1", BAD, x.guard(-1));
    }

    static void rowOf(String what, FoundVirtues x, int steps, int... row) {
        due(what + ", steps", steps, x.shelves(-1));
        for (int i = 0; i < 6; i++) due(what + ", the " + i + "-th", i < row.length ? row[i] : NONE, x.shelves(i));
    }

    static void shelves() {
        sentence = "SHELVES, of the first six at most";
        rowOf("nothing", new FoundVirtues(), 0);
        rowOf("no VIRTUES", office("", "????0"), 0);
        rowOf("one, nobody", office("hlhl0", ""), 0, 0);
        rowOf("one", office("hlhl0", "????0"), 1, 0);
        rowOf("five", office(times(5, "hlhl0"), "????0"), 15, 0, 1, 2, 3, 4);
        rowOf("six", office(times(6, "hlhl0"), times(8, "????0")), 168, 0, 1, 2, 3, 4, 5);
        rowOf("seven", office(times(7, "hlhl0"), times(8, "????0")), 168, 0, 1, 2, 3, 4, 5);
        rowOf("eight", office(times(8, "hlhl0"), times(8, "????0")), 168, 0, 1, 2, 3, 4, 5);
        rowOf("the seventh alone is wanted", office(times(6, "hlhl0") + ";llll0;llll0", "l???0"), 0, 0, 1, 2, 3, 4, 5);
        rowOf("the last is wanted most", office("llll0;hhhh0;hlhl0", "hl??0;h?h?0;h???0"), 3 + 2 * 2, 2, 1, 0);
        rowOf("like ones by the least row", office("llll0;hhhh0;llll0;hhhh0", "h???0"), 3, 1, 3, 0, 2);
        FoundVirtues x = office(times(8, "hlhl0"), "");
        due("6", BAD, x.shelves(6));
        due("-2", BAD, x.shelves(-2));
    }

    static void pairs(String what, FoundVirtues x, int many, int... others) {
        due(what + ", how many", many, x.together(-1));
        for (int v = 0; v < 8; v++) due(what + ", with " + v, v < others.length ? others[v] : NONE, x.together(v));
    }

    static void together() {
        sentence = "a PAIR, if they have unlike marks in just one sort";
        for (int a = 0; a < 16; a++) {
            for (int b = 0; b < 16; b++) {
                FoundVirtues x = office(letters(a, 15) + "0;" + letters(b, 15) + "9", "");
                boolean isPair = Integer.bitCount(a ^ b) == 1;
                due(a + " with " + b, isPair ? 1 : 0, x.together(-1));
                due(a + " with " + b, isPair ? 1 : NONE, x.together(0));
                due(b + " with " + a, isPair ? 0 : NONE, x.together(1));
            }
        }
        sentence = "TOGETHER: the most PAIRS, each VIRTUE in one at most, the least row";
        pairs("nothing", new FoundVirtues(), 0);
        pairs("one", office("hlhl0", ""), 0);
        for (int n = 0; n <= 8; n++) {
            for (int p = 1; p <= 8; p++) pairs(n + " like ones, wanted by " + p, office(times(n, "hlhl9"), times(p, "????0")), 0);
        }
        pairs("three", office("llll0;llll0;hlll0", ""), 1, 2, NONE, 0);
        pairs("eight like ones", office(times(8, "hlhl0"), ""), 0);
        pairs("eight", office(EIGHT, ""), 4, 1, 0, 3, 2, 5, 4, 7, 6);
        pairs("four with four", office(times(4, "hlhl0") + ";" + times(4, "hlhh0"), ""), 4, 4, 5, 6, 7, 0, 1, 2, 3);
        pairs("one with seven", office("llll0;" + times(7, "hlll0"), ""), 1, 1, 0);
        pairs("the first and the last", office("llll0;" + times(6, "hhhh0") + ";hlll0", ""), 1, 7, NONE, NONE, NONE, NONE, NONE, NONE, 0);
        pairs("the most ahead of the least row", office("hlll0;llll0;hhll0;lllh0", ""), 2, 2, 3, 0, 1);
        FoundVirtues x = office(EIGHT, "");
        due("8", BAD, x.together(8));
        due("-2", BAD, x.together(-2));
    }

    // ======== 4: seen, lots

    static void eightSeen() {
        sentence = "SEEN, 8 at most, of a VIRTUE (0 to 7), was (1) or not (0)";
        FoundVirtues x = office("hlhl0", "");
        due("none to forget", 0, x.forget());
        due("virtue 8", BAD, x.seen(0, 8, 0));
        due("virtue -1", BAD, x.seen(0, -1, 0));
        due("is 2", BAD, x.seen(0, 0, 2));
        due("is -1", BAD, x.seen(0, 0, -1));
        for (int n = 1; n <= 7; n++) due("seen", n, x.seen(39, 7, 0));
        due("of a VIRTUE that there is not, not on the shelf", ALL_WEEKS, x.when(0));
        due("the 8th", 8, x.seen(3, 0, 1));
        due("the 9th", FULL, x.seen(3, 0, 0));
        due("how many", 8, x.count(6));
        due("the 8th counts, the 9th does not", 1 << 2 | 1 << 3, x.when(0));
        due("forget", 8, x.forget());
        due("none", 0, x.count(6));
        due("nothing SEEN", ALL_WEEKS, x.when(0));
        for (int n = 1; n <= 8; n++) due("seen anew", n, x.seen(0, 7, 1));
        due("of a VIRTUE that there is not, on the shelf", 0, x.when(0));
        due("forget again", 8, x.forget());
        x.seen(3, 0, 1);
        x.seen(3, 0, 0);
        due("both ways", 0, x.when(0));
    }

    static void when() {
        sentence = "WHEN: WEEKS 0 to 19, were it handed in then by one HANDING more";
        due("nothing SEEN, nothing told", ALL_WEEKS, office("hlhl0;llll0", "hlhl0").when(1));
        for (int told = 1; told <= 9; told++) {
            FoundVirtues x = office("hlhl0;llll0", "hlhl0");
            for (int week : new int[] {0, 1, 18, 19, 20, 26, 27, 39}) {
                x.set(2, told);
                x.seen(week, 0, 1);
                int weeks = 0;
                for (int w = 0; w < 20; w++) if (w <= week && week <= w + told - 2) weeks |= 1 << w;
                due("on the shelf in " + week + ", KEPT " + told, weeks, x.when(0));
                x.forget();
                x.seen(week, 0, 0);
                due("not on the shelf in " + week + ", KEPT " + told, ALL_WEEKS & ~weeks, x.when(0));
                x.forget();
            }
        }
        due("no such", BAD, office("hlhl0;llll0", "hlhl0").when(2));
        due("no VIRTUES", BAD, new FoundVirtues().when(0));
    }

    static void whenMore() {
        sentence = "WHEN, with what is told";
        FoundVirtues x = office("hlhl0;llll0", "hlhl0");
        x.handing(10, 0);
        x.seen(10, 0, 1);
        due("told already: later ones change nothing, much earlier ones sell it", ALL_WEEKS & ~0x1ff, x.when(0));
        due("the other one", ALL_WEEKS, x.when(1));
        x.claim(10, 0);
        due("claimed in that WEEK", 0, x.when(0));
        due("never, by the other one", 0, x.when(1));
        x.back(1);
        for (int n = 1; n < 12; n++) x.handing(39, 1);
        due("HANDINGS are full", FULL, x.handing(0, 0));
        due("one more than twelve", ALL_WEEKS & ~0x1ff, x.when(0));
        due("HANDINGS stay", 12, x.count(4));
        due("and what came of them", 1, x.behind(10, 0));
        x.forget();
        x.seen(39, 1, 1);
        due("told in the last WEEK", 0, x.when(1));
        due("not touched by the other one", ALL_WEEKS, x.when(0));
        FoundVirtues last = office("hlhl0", "");
        last.set(2, 9);
        last.seen(26, 0, 1);
        due("19 is the last WEEK", 1 << 19, last.when(0));
        last.forget();
        last.seen(27, 0, 1);
        due("20 is none of them", 0, last.when(0));
    }

    static void nIs1To40() {
        sentence = "WEEKS by a SEED: each of n (1 to 40)";
        FoundVirtues x = office("hlhl0", "hlhl0");
        for (int n : new int[] {0, 41, -1, MIN, MAX}) due("n " + n, BAD, x.weeks(1, n, 0));
        for (int what : new int[] {2, -1, MIN, MAX}) due("what " + what, BAD, x.weeks(1, 1, what));
        for (int seed : new int[] {0, -1, MIN, MAX}) {
            due("one each: given at once", 1, x.weeks(seed, 1, 0));
            due("none to sell", 0, x.weeks(seed, 40, 1));
        }
        FoundVirtues y = office("hlhl0", "llll0");
        due("two WEEKS", 0, y.weeks(9, 2, 1));
        due("three WEEKS: SOLD", 1, y.weeks(9, 3, 1));
        due("forty WEEKS", 1, y.weeks(9, 40, 1));
        due("none GIVEN", 0, y.weeks(9, 40, 0));
        y.set(2, 9);
        due("KEPT 9, eight WEEKS", 0, y.weeks(9, 8, 1));
        due("KEPT 9, nine WEEKS", 1, y.weeks(9, 9, 1));
        y.set(2, 1);
        due("KEPT 1, one WEEK", 1, y.weeks(9, 1, 1));
    }

    static void noLots() {
        sentence = "no LOTS at all, if there are no VIRTUES, or no CLAIMANTS";
        due("of a new one", 0, new FoundVirtues().weeks(1, 40, 0));
        due("of a new one", 0, new FoundVirtues().weeks(1, 40, 1));
        due("no CLAIMANTS", 0, office(EIGHT, "").weeks(1, 40, 1));
        due("no VIRTUES", 0, office("", EIGHT).weeks(1, 40, 0));
        FoundVirtues x = office("hlhl0", "");
        x.handing(37, 0);
        due("what is told, WEEK 38 the last", 0, x.weeks(1, 39, 1));
        due("what is told, WEEK 39 the last", 1, x.weeks(1, 40, 1));
        x.type(1, 'l');
        due("CLAIMANTS with a FAULT", 1, x.weeks(1, 40, 1));
        due("so no LOTS", 0, x.weeks(1, 39, 1));
    }

    /** By SEED the first LOTS are told here: of VIRTUES, of CLAIMANTS; -1 makes the upper bit of the first one 1. */
    static void lotsThatWrap() {
        sentence = "LOTS: ints that wrap; the upper 16 bits as a number from 0 on, modulo m";
        int[][] lots = {{0, 0, 54236}, {1, 16838, 38526}, {-1, 48697, 4409}, {MAX, 15929, 37177}, {MIN, 32768, 21468}, {7, 52332, 9806}};
        for (int[] lot : lots) {
            for (int m = 1; m <= 8; m++) {
                for (int p = 1; p <= 8; p++) {
                    // Only the VIRTUE and the CLAIMANT of the LOTS FIT each other.
                    String[] v = new String[m], c = new String[p];
                    Arrays.fill(v, "hhhh1");
                    Arrays.fill(c, "lhlh1");
                    v[lot[1] % m] = "llll1";
                    c[lot[2] % p] = "ll??1";
                    FoundVirtues x = office(String.join(";", v), String.join(";", c));
                    due("SEED " + lot[0] + " of " + m + " and " + p, 1, x.weeks(lot[0], 1, 0));
                    x.set(2, 1);
                    due("none left to sell", 0, x.weeks(lot[0], 1, 1));
                }
            }
        }
        // The second WEEK of SEED 0: 42756 and 54885; of SEED -1: 9862 and 59486.
        FoundVirtues eights = office("llll1;hhhh1;hhhh1;hhhh1;hlhl1;hhhh1;hhhh1;hhhh1", "hhll1;hhll1;hhll1;hhll1;llll1;hlhl1;hhll1;hhll1");
        due("SEED 0, one WEEK: 0 and 54236 % 8 = 4", 1, eights.weeks(0, 1, 0));
        due("SEED 0, two WEEKS: 42756 % 8 = 4 and 54885 % 8 = 5", 2, eights.weeks(0, 2, 0));
        due("SEED -1, one WEEK", 1, office("hhhh1;llll1", "hhhh1;llll1").weeks(-1, 1, 0));
        due("SEED -1, the other one in the second", 2, office("hhhh1;llll1", "hhhh1;llll1").weeks(-1, 2, 0));
    }

    static void lotsBehindTold() {
        sentence = "all behind what is told";
        // SEED 0: VIRTUE 0, CLAIMANT 54236 % 2 = 0.
        FoundVirtues x = office("llll1", "ll??3;llll3");
        x.claim(0, 1);
        due("who is told comes first", 1, x.weeks(0, 1, 0));
        FoundVirtues y = office("llll1;llhl2", "ll??3;llll3");
        y.handing(0, 1);
        y.claim(0, 1);
        due("1 takes the one of WORTH 1 first, so both are given", 2, y.weeks(0, 1, 0));
        FoundVirtues z = office("llll1;llhl2", "ll??3;llll4");
        z.handing(0, 1);
        z.claim(0, 1);
        due("a less RICH one by LOT comes ahead of it", 1, z.weeks(0, 1, 0));
        FoundVirtues full = office("llll1", "llll3");
        for (int n = 0; n < 12; n++) {
            full.handing(0, 7);
            full.claim(0, 7);
        }
        due("LOTS behind twelve of each", 1, full.weeks(0, 1, 0));
        due("which stay", 24, full.count(4) + full.count(5));
        due("and what comes of them", 0, full.behind(39, 1));
        // SEED 18: VIRTUE 1 and CLAIMANT 0, who does not FIT it, in WEEKS 0 and 1; CLAIMANT 1 in WEEK 2.
        FoundVirtues last = office("llll1;llhl2", "llll3;ll??3");
        for (int n = 0; n < 11; n++) last.claim(39, 0);
        last.handing(2, 0);
        last.claim(2, 0);
        due("up to WEEK 1 none", 0, last.weeks(18, 2, 0));
        due("in a later WEEK, too, the 12th told comes ahead of the LOT", 2, last.weeks(18, 3, 0));
        FoundVirtues late = office("llll1", "hhhh3;llll3");
        late.handing(5, 0);
        late.claim(5, 1);
        due("by LOT it came in 0, CLAIMANT 54236 % 2 = 0", 0, late.weeks(0, 1, 0));
        due("by LOT CLAIMANT 54885 % 2 = 1 came in 1", 1, late.weeks(0, 2, 0));
        due("so it is not SOLD", 0, late.weeks(0, 40, 1));
        due("as told it is GIVEN in 5", 5, late.gone(0, 1));
    }

    // ======== sheets

    static void fourSheets() {
        sentence = "SHEETS 0 .. 3 are LOST (at first) or a row of a FORM of 0 to 48 items (0 at first)";
        FoundVirtues x = new FoundVirtues();
        due("no FINDING", 0, x.count(8));
        for (int s = 0; s < 4; s++) due("LOST at first", NULL, x.lose(s));
        for (int s = 0; s < 4; s++) {
            for (int form = 0; form < 3; form++) {
                due("48", 48, x.sheet(s, form, 48));
                due("the last item", 0, x.get(s, form, 47));
                due("put the last", 1, x.put(s, form, 47, 5));
                due("the last", 5, x.get(s, form, 47));
                due("put the first", 1, x.put(s, form, 0, 6));
                due("49", BAD, x.sheet(s, form, 49));
                due("greatest", BAD, x.sheet(s, form, MAX));
                due("as it was", 5, x.get(s, form, 47));
                due("anew", 48, x.sheet(s, form, 48));
                due("0 at first", 0, x.get(s, form, 47) + x.get(s, form, 0));
                due("none", 0, x.sheet(s, form, 0));
                due("no first item", INDEX, x.put(s, form, 0, 1));
                due("lose none", 0, x.lose(s));
                due("LOST", NULL, x.lose(s));
            }
        }
    }

    static void lessAndMoreItems() {
        sentence = "there is no such item";
        FoundVirtues x = new FoundVirtues();
        for (int n : new int[] {1, 2, 47, 48}) {
            x.sheet(0, 2, 48);
            x.put(0, 2, 47, 9);
            x.sheet(0, 2, n);
            due("the last of " + n, 1, x.put(0, 2, n - 1, 3));
            due("the one behind", INDEX, x.put(0, 2, n, 3));
            due("the one ahead", INDEX, x.put(0, 2, -1, 3));
            due("the one behind", MIN, x.get(0, 2, n));
            due("count() 8", 2, x.count(8));
            due("how many it had", n, x.lose(0));
        }
    }

    static void lowestBits() {
        sentence = "the lowest bits that it has, with its sign";
        FoundVirtues x = new FoundVirtues();
        for (int form = 0; form < 3; form++) x.sheet(form, form, 1);
        int[] values = {0, -1, 127, 128, -128, -129, 255, 256, 257, 32767, 32768, -32768, -32769, 65535, 65536, 65537, MAX, MIN};
        int[] bytes = {0, -1, 127, -128, -128, 127, -1, 0, 1, -1, 0, 0, -1, -1, 0, 1, -1, 0};
        int[] shorts = {0, -1, 127, 128, -128, -129, 255, 256, 257, 32767, -32768, -32768, 32767, -1, 0, 1, -1, 0};
        for (int k = 0; k < values.length; k++) {
            for (int form = 0; form < 3; form++) due("put", 1, x.put(form, form, 0, values[k]));
            due("byte of " + values[k], bytes[k], x.get(0, 0, 0));
            due("short of " + values[k], shorts[k], x.get(1, 1, 0));
            due("int of " + values[k], values[k], x.get(2, 2, 0));
        }
        due("an item that is the least int is no FINDING", 0, x.count(8));
    }

    static void getTellsByCount8() {
        sentence = "get: BAD: the least int; so are NULL, CAST, INDEX (count() 8 tells)";
        FoundVirtues x = new FoundVirtues();
        x.sheet(0, 1, 2);
        due("BAD", MIN, x.get(4, 0, 0));
        due("BAD", MIN, x.get(0, 3, 0));
        due("is no FINDING", 0, x.count(8));
        due("INDEX", MIN, x.get(0, 1, 2));
        due("INDEX", 2, x.count(8));
        due("NULL", MIN, x.get(1, 1, 2));
        due("NULL", 1, x.count(8));
        due("CAST", MIN, x.get(0, 2, 2));
        due("CAST", 3, x.count(8));
        due("well", 0, x.get(0, 1, 1));
        due("the latest FINDING stays", 3, x.count(8));
        due("BAD", MIN, x.get(-1, 1, 1));
        due("the latest FINDING stays", 3, x.count(8));
    }

    static void latestFinding() {
        sentence = "count() 8: the number of the latest FINDING (0 before any)";
        FoundVirtues x = office("llll1", "");
        x.undo(3);
        x.back(0);
        x.virtue(1, 0);
        x.sheet(0, 0, 49);
        due("before any", 0, x.count(8));
        x.sheet(0, 0, -1);
        due("SIZE", 5, x.count(8));
        x.sheet(0, 0, 1);
        x.sheet(1, 1, 1);
        due("stays", 5, x.count(8));
        x.copy(0, 0, 1, 0, 1);
        due("STORE", 4, x.count(8));
        x.put(0, 1, 0, 1);
        due("CAST", 3, x.count(8));
        x.put(0, 0, 1, 1);
        due("INDEX", 2, x.count(8));
        x.lose(3);
        due("NULL", 1, x.count(8));
        x.copy(0, 2, 0, 0, 0);
        due("INDEX", 2, x.count(8));
        x.read(3);
        due("NULL", 1, x.count(8));
        x.copy(0, 0, 0, 0, -1);
        x.write(2);
        due("NULL", 1, x.count(8));
        x.digest();
        due("digest is none", 1, x.count(8));
        due("9", BAD, x.count(9));
        due("-1", BAD, x.count(-1));
    }

    static FoundVirtues sheetOf(int form, int... items) {
        FoundVirtues x = new FoundVirtues();
        x.sheet(0, form, items.length);
        for (int i = 0; i < items.length; i++) x.put(0, form, i, items[i]);
        return x;
    }

    static void itemsAre(String what, FoundVirtues x, int s, int form, int... items) {
        for (int i = 0; i < items.length; i++) due(what + ", item " + i, items[i], x.get(s, form, i));
    }

    static void copy() {
        sentence = "copy: n items of SHEET s, from i on, come to SHEET t (perhaps s, as they were)";
        for (int form = 0; form < 3; form++) {
            FoundVirtues x = sheetOf(form, 1, 2, 3, 4, 5);
            x.sheet(3, form, 7);
            due("none", 1, x.copy(0, 0, 3, 0, 0));
            due("none, at both ends", 1, x.copy(0, 5, 3, 7, 0));
            due("none, a step beyond s", INDEX, x.copy(0, 6, 3, 7, 0));
            due("none, a step beyond t", INDEX, x.copy(0, 5, 3, 8, 0));
            itemsAre("none", x, 3, form, 0, 0, 0, 0, 0, 0, 0);
            due("all, to the end of t", 1, x.copy(0, 0, 3, 2, 5));
            itemsAre("all", x, 3, form, 0, 0, 1, 2, 3, 4, 5);
            due("one more than there is", INDEX, x.copy(0, 0, 3, 0, 6));
            due("one more than there is room", INDEX, x.copy(0, 0, 3, 3, 5));
            due("the last to the first", 1, x.copy(0, 4, 3, 0, 1));
            itemsAre("the last", x, 3, form, 5, 0, 1, 2, 3, 4, 5);
            due("onto itself, a step up", 1, x.copy(0, 0, 0, 1, 4));
            itemsAre("a step up", x, 0, form, 1, 1, 2, 3, 4);
            due("onto itself, a step down", 1, x.copy(0, 1, 0, 0, 4));
            itemsAre("a step down", x, 0, form, 1, 2, 3, 4, 4);
            due("onto itself, all", 1, x.copy(0, 0, 0, 0, 5));
            itemsAre("all", x, 0, form, 1, 2, 3, 4, 4);
        }
        FoundVirtues full = new FoundVirtues();
        full.sheet(0, 2, 48);
        full.sheet(1, 2, 48);
        full.put(0, 2, 0, MIN);
        full.put(0, 2, 47, MAX);
        due("48", 1, full.copy(0, 0, 1, 0, 48));
        due("the first", MIN, full.get(1, 2, 0));
        due("the last", MAX, full.get(1, 2, 47));
        full.sheet(2, 2, 0);
        due("none of none", 1, full.copy(2, 0, 2, 0, 0));
        due("one of none", INDEX, full.copy(2, 0, 1, 0, 1));
        due("one to none", INDEX, full.copy(1, 0, 2, 0, 1));
        due("a copy is apart", 1, full.put(0, 2, 0, 8));
        due("from what it was", MIN, full.get(1, 2, 0));
    }

    static void read() {
        sentence = "read: as many as are whole, up to the first that claim() refuses";
        for (int n = 0; n <= 26; n++) {
            FoundVirtues x = new FoundVirtues();
            x.sheet(0, n % 3, n);
            due(n + " items", Math.min(12, n / 2), x.read(0));
            due("CLAIMS", Math.min(12, n / 2), x.count(5));
            due("no FINDING", 0, x.count(8));
        }
        int[][] refused = {{40, 0}, {-1, 0}, {0, 8}, {0, -1}, {127, 127}, {-128, 7}};
        for (int[] pair : refused) {
            for (int form = 0; form < 3; form++) {
                FoundVirtues x = sheetOf(form, 39, 7, 0, 0, pair[0], pair[1], 1, 1);
                due("two, then " + Arrays.toString(pair), 2, x.read(0));
                due("CLAIMS", 2, x.count(5));
                due("no FINDING", 0, x.count(8));
                itemsAre("the SHEET stays", x, 0, form, 39, 7, 0, 0, pair[0], pair[1], 1, 1);
            }
        }
        FoundVirtues ints = sheetOf(2, 256, 0, 1, 1);
        due("an int is not cut", 0, ints.read(0));
        FoundVirtues bytes = sheetOf(0, 256, 0, 1, 1);
        due("a byte was", 2, bytes.read(0));
        FoundVirtues x = sheetOf(1, 5, 0, 6, 0, 7, 0);
        for (int n = 0; n < 10; n++) x.claim(0, 1);
        due("room for two", 2, x.read(0));
        due("no room", 0, x.read(0));
        due("twelve", 12, x.count(5));
        due("undone", 11, x.back(1));
        due("room for one", 1, x.read(0));
    }

    static void readBehindThoseTold() {
        sentence = "read: CLAIMS more, behind those that there are";
        FoundVirtues x = sheetOf(0, 4, 1, 4, 0);
        type(x, 0, "llll1");
        type(x, 1, "llll3;ll??3");
        x.handing(4, 0);
        due("both", 2, x.read(0));
        due("the first read comes first", 1, x.gone(0, 0));
        x.back(1);
        x.back(1);
        x.claim(4, 0);
        x.read(0);
        due("who was told comes first", 0, x.gone(0, 0));
        due("EMPTY", 6, x.empty());
    }

    static void write() {
        sentence = "write: as many as there are items, 40 at most";
        for (int n : new int[] {0, 1, 39, 40, 41, 48}) {
            FoundVirtues x = office(times(8, "hlhl1"), "");
            for (int v = 0; v < 8; v++) x.handing(v < 7 ? 0 : 39, v);
            x.sheet(1, 2, n);
            for (int i = 0; i < n; i++) x.put(1, 2, i, 1000 + i);
            due(n + " items", Math.min(40, n), x.write(1));
            for (int i = 0; i < n; i++) {
                int want = i < 2 ? 127 : i < 39 ? 0 : i == 39 ? 128 : 1000 + i;
                due("of " + n + ", item " + i, want, x.get(1, 2, i));
            }
            due("no FINDING", 0, x.count(8));
        }
        sentence = "write: the lowest bits, with its sign";
        FoundVirtues x = office(times(8, "hlhl1"), "");
        for (int v = 0; v < 8; v++) x.handing(v < 7 ? 0 : 1, v);
        for (int form = 0; form < 3; form++) {
            x.sheet(form, form, 2);
            due("two", 2, x.write(form));
            itemsAre("form " + form, x, form, form, 127, form == 0 ? -1 : 255);
        }
    }

    // ======== counts, digest

    static void counts() {
        sentence = "count() 0 to 7";
        FoundVirtues x = new FoundVirtues();
        for (int what = 0; what <= 8; what++) due("at first, " + what, 0, x.count(what));
        FoundVirtues full = office(times(8, "hlhl9"), times(8, "????9"));
        for (int n = 0; n < 13; n++) {
            full.handing(0, 0);
            full.claim(0, 0);
            full.seen(0, 0, 0);
        }
        int[] want = {8, 8, 47, 47, 12, 12, 8, 72, 0};
        for (int what = 0; what <= 8; what++) due("full, " + what, want[what], full.count(what));
        full.undo(0);
        full.undo(1);
        int[] faulty = {0, 0, 46, 46, 12, 12, 8, 0, 0};
        for (int what = 0; what <= 8; what++) due("with a FAULT, " + what, faulty[what], full.count(what));
        due("9", BAD, x.count(9));
        due("-1", BAD, x.count(-1));
    }

    static long h;

    static void mix(long... answers) {
        for (long a : answers) h = 31 * h + a;
    }

    /** By told answers alone, worked out by hand from the document. */
    static void digestByHand() {
        sentence = "digest: h is 17; h becomes 31 h and each of";
        FoundVirtues x = office("llll5", "l??l2");
        x.handing(1, 0);
        x.claim(1, 0);
        x.set(0, 3);
        x.seen(2, 0, 1);
        h = 17;
        mix(1, 1, 5, 5, 1, 1, 1, 5);
        mix(-1, -1);
        mix(0, 5, -1, 3, 1, 0, 7, 1, 1, -1, ALL_WEEKS & ~1);
        mix(9, 0, 2, 1, 1);
        mix(0, 0, 0, 1, 0, 0, 0, 0, 1, 0, 0, 1);
        mix(1, 5, -1, 1, 5, -1, 1, 0, 0, 0, 1);
        due("one VIRTUE, one CLAIMANT", h, x.digest());
        due("again", h, x.digest());
        x.type(0, 'x');
        h = 17;
        mix(0, 1, 6, 5, 1, 1, 1, 0);
        mix(5, -1);
        mix(9, 0, 2, 0, 1);
        mix(0, 0, 0, 0, 0, 0, 0, 0, 0, 0, 0, 0);
        mix(1, 0, -1, 0, 0, 0, 0, -1, 0, 0, 0);
        due("with a FAULT", h, x.digest());
    }

    /** From the answers of the other calls, in the order told. */
    static long toldDigest(FoundVirtues x) {
        h = 17;
        for (int what = 0; what <= 7; what++) mix(x.count(what));
        mix(x.fault(0), x.fault(1));
        for (int v = 0; v < x.count(0); v++) {
            mix(x.virtue(v, 0), x.virtue(v, 1), x.gone(v, 0), x.gone(v, 1), x.fitting(1, v), x.match(v), x.lie(v));
            mix(x.guess(v, 0), x.guess(v, 1), x.together(v), x.when(v));
        }
        for (int c = 0; c < x.count(1); c++) mix(x.claimant(c, 0), x.claimant(c, 1), x.claimant(c, 2), x.fitting(0, c), x.ask(c));
        for (int week : new int[] {0, 1, 5, 39}) mix(x.behind(week, 0), x.behind(week, 1), x.behind(week, 2));
        mix(x.empty(), x.sale(), x.saint(), x.match(-2), x.match(-1), x.guard(8), x.shelves(-1), x.shelves(0), x.together(-1));
        mix(x.weeks(7, 20, 0), x.weeks(7, 20, 1));
        return h;
    }

    /** Each WEEK of a HANDING and each KEPT, so that a WEEK beside a told one, or 19 or 21 for 20, would show. */
    static void digestAtItsWeeks() {
        sentence = "digest: WEEKS 0, 1, 5, 39; guard(8); weeks(7, 20, 0 and 1)";
        String[] guards = {"llll4;llhl2;lhhl2", "llll4;llhl2;llhl2;lhll1", "llll4;hlll2;hlll1;llhl1", EIGHT};
        for (String virtues : guards) {
            for (int week = 0; week < 40; week++) {
                FoundVirtues x = office(virtues, "hhhh9;ll??3;h?h?0;llll2;lhh?1");
                x.set(1, week % 16);
                x.set(2, 1 + week % 9);
                x.handing(week, 0);
                x.handing(week / 2, 1);
                x.claim(week, 1);
                due("WEEK " + week + " of " + virtues, toldDigest(x), x.digest());
                FoundVirtues lonely = office("llll4", "hhhh1");
                lonely.set(2, 1 + week % 9);
                lonely.handing(week, 0);
                due("WEEK " + week, toldDigest(lonely), lonely.digest());
            }
        }
        digestAtTheTwentieth();
    }

    /** By SEED 7 VIRTUE 0 of eight comes in WEEK 19, and only a told CLAIM of CLAIMANT 1 can have it. */
    static void digestAtTheTwentieth() {
        for (int week = 19; week <= 20; week++) {
            FoundVirtues x = office(EIGHT, "hhhh0;llll0");
            x.claim(week, 1);
            due("GIVEN in WEEK 19, not in 20", week == 19 ? 1 : 0, x.weeks(7, 20, 0));
            due("with 21 WEEKS it is", 1, x.weeks(7, 21, 0));
            due("claimed in WEEK " + week, toldDigest(x), x.digest());
            FoundVirtues y = office("llll4", "");
            y.handing(week - 2, 0);
            due("SOLD in WEEK 19, not in 20", week == 19 ? 1 : 0, y.weeks(7, 20, 1));
            due("to sell in WEEK " + week, toldDigest(y), y.digest());
        }
    }

    static void objectsAreApart() {
        sentence = "a new object: no VIRTUES, nobody; all SHEETS are LOST";
        FoundVirtues old = office(EIGHT, EIGHT);
        old.set(0, 0);
        old.set(1, 15);
        old.set(2, 9);
        old.handing(0, 0);
        old.claim(0, 0);
        old.seen(0, 0, 0);
        for (int s = 0; s < 4; s++) old.sheet(s, 2, 48);
        old.get(0, 0, 0);
        FoundVirtues x = new FoundVirtues();
        for (int what = 0; what <= 8; what++) due("count " + what, 0, x.count(what));
        due("ENOUGH", 2, x.set(0, 2));
        due("SECRET", 0, x.set(1, 0));
        due("KEPT", 3, x.set(2, 3));
        for (int s = 0; s < 4; s++) due("LOST", NULL, x.lose(s));
        due("the old one stays", 48, old.lose(3));
    }

    static void texts() {
        upTo47Bytes();
        aByteIs0To255();
        textsAre0And1();
        eightAtMost();
        eachByteAtEachPlace();
        firstFault();
        undoneAndTypedAnew();
        emptyIsWell();
        notEnded();
        asIfEmpty();
        marksAndFigures();
        fits();
    }

    static void officeRules() {
        enough();
        secret();
        kept();
        keptAsToldNow();
        weeksAre0To39();
        twelveHandings();
        twelveClaims();
        thatThereIs();
        neverWasOnTheShelf();
        orderOfClaims();
        leastWorth();
        emptySale();
        goneNone();
        saints();
        behindIsOfAllWeeks();
    }

    static void whoseItIs() {
        match();
        ask();
        lie();
        guess();
        guard();
        shelves();
        together();
        eightSeen();
        when();
        whenMore();
        nIs1To40();
        noLots();
        lotsThatWrap();
        lotsBehindTold();
    }

    static void sheets() {
        fourSheets();
        lessAndMoreItems();
        lowestBits();
        getTellsByCount8();
        latestFinding();
        copy();
        read();
        readBehindThoseTold();
        write();
        counts();
        digestByHand();
        digestAtItsWeeks();
        objectsAreApart();
    }

    public static void main(String[] args) {
        texts();
        officeRules();
        whoseItIs();
        sheets();
        System.out.println(asked + " answers at edges, " + wrong + " not as due");
        if (wrong != 0) System.exit(1);
    }
}
