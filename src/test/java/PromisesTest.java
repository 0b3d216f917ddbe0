/** Each promise of the document by told answers: ordinary ones, its edges, wrong inputs. */
public final class PromisesTest {
    static final int NONE = -1, BAD = -2, NOT = -3, FULL = -4;
    static final int NULL = -11, INDEX = -12, CAST = -13, STORE = -14, SIZE = -15;
    static final int LEAST = Integer.MIN_VALUE;
    static int wrong = 0;
    static int asked = 0;
    static int promise = 0;

    static void due(String what, long want, long got) {
        asked++;
        if (want != got) {
            wrong++;
            System.out.println("promise " + promise + ": " + what + " answered " + got + ", due is " + want);
        }
    }

    static void type(FoundVirtues x, int text, String bytes) {
        for (int i = 0; i < bytes.length(); i++) x.type(text, bytes.charAt(i));
    }

    static FoundVirtues office(String virtues, String claimants) {
        FoundVirtues x = new FoundVirtues();
        type(x, 0, virtues);
        type(x, 1, claimants);
        return x;
    }

    static final String EIGHT = "llll0;hlll1;lhll2;hhll3;llhl4;hlhl5;lhhl6;hhhl7";
    static final int[] FAR = {-1, Integer.MIN_VALUE, Integer.MAX_VALUE};

    static void aNewObject() {
        promise = 1;
        FoundVirtues x = new FoundVirtues();
        for (int what = 0; what <= 8; what++) due("count " + what, 0, x.count(what));
        for (int s = 0; s < 4; s++) due("lose " + s, NULL, x.lose(s));
        due("ENOUGH at first", 2, x.set(0, 2));
        due("SECRET at first", 0, x.set(1, 0));
        due("KEPT at first", 3, x.set(2, 3));
        FoundVirtues a = office("llll1", "");
        FoundVirtues b = new FoundVirtues();
        due("objects are apart", 0, b.count(2));
        due("objects are apart", 5, a.count(2));
    }

    static void texts() {
        promise = 2;
        FoundVirtues x = new FoundVirtues();
        due("first", 1, x.type(0, 'l'));
        due("other text", 1, x.type(1, '?'));
        due("second", 2, x.type(0, 0));
        due("third", 3, x.type(0, 255));
        due("b -1", BAD, x.type(0, -1));
        due("b 256", BAD, x.type(0, 256));
        due("text 2", BAD, x.type(2, 'l'));
        due("text -1", BAD, x.type(-1, 'l'));
        due("nothing changed", 3, x.count(2));
        for (int n = 4; n <= 47; n++) due("up to 47", n, x.type(0, 'l'));
        due("the 48th", FULL, x.type(0, 'l'));
        due("BAD ahead of FULL", BAD, x.type(0, 256));
        due("FULL of one alone", 2, x.type(1, 'l'));
        promise = 3;
        due("wipe", 47, x.wipe(0));
        due("wipe an empty one", 0, x.wipe(0));
        due("the other stands", 2, x.count(3));
        due("wipe it", 2, x.wipe(1));
        due("wipe 2", BAD, x.wipe(2));
        due("wipe -1", BAD, x.wipe(-1));
        promise = 4;
        type(x, 0, EIGHT);
        due("eight", 8, x.count(0));
        due("undo", 46, x.undo(0));
        due("not ended", 0, x.count(0));
        due("fault at its end", 46, x.fault(0));
        due("undo the 2nd", 45, x.undo(0));
        x.type(0, 'h');
        x.type(0, '9');
        due("typed anew", 15, x.virtue(7, 0));
        due("typed anew", 9, x.virtue(7, 1));
        for (int n = 46; n >= 0; n--) due("undo down", n, x.undo(0));
        due("undo of nothing", NOT, x.undo(0));
        due("undo 2", BAD, x.undo(2));
        due("undo -1", BAD, x.undo(-1));
        type(x, 0, "llx");
        due("wrong byte", 2, x.fault(0));
        x.type(0, 'l');
        due("wrong byte stays", 2, x.fault(0));
        x.undo(0);
        x.undo(0);
        due("wrong byte undone", 2, x.fault(0));
        type(x, 0, "ll3");
        due("well again", NONE, x.fault(0));
    }

    static void fault(int text, String bytes, int want) {
        FoundVirtues x = new FoundVirtues();
        type(x, text, bytes);
        due("fault of " + bytes, want, x.fault(text));
        int things = want == NONE ? (bytes.length() + 1) / 6 : 0;
        due("count of " + bytes, things, x.count(text));
        due("bytes of " + bytes, bytes.length(), x.count(2 + text));
    }

    static void faults() {
        promise = 5;
        for (int text = 0; text < 2; text++) {
            fault(text, "", NONE);
            fault(text, "l", 1);
            fault(text, "llll", 4);
            fault(text, "llll0", NONE);
            fault(text, "hhhh9", NONE);
            fault(text, "hhhh:", 4);
            fault(text, "hhhh/", 4);
            fault(text, "lllll", 4);
            fault(text, "llll0;", 6);
            fault(text, "llll0;;", 6);
            fault(text, "llll00", 5);
            fault(text, "llll0,llll0", 5);
            fault(text, "Llll0", 0);
            fault(text, "lllL0", 3);
            fault(text, ";", 0);
            fault(text, "0llll", 0);
            fault(text, "ll l0", 2);
            fault(text, EIGHT, NONE);
            fault(text, "llll0;hhhh", 10);
        }
        fault(0, "?lll0", 0);
        fault(0, "lll?0", 3);
        fault(1, "????0", NONE);
        fault(1, "l?h?5;????9", NONE);
        fault(1, "llll?", 4);
        fault(1, "llll0?", 5);
        FoundVirtues x = new FoundVirtues();
        due("fault 2", BAD, x.fault(2));
        due("fault -1", BAD, x.fault(-1));
    }

    static void virtuesAndClaimants() {
        promise = 6;
        FoundVirtues x = office("hlll3;lhll0;llhl9;lllh1;hlhh7", "hl??3;??lh0;????9");
        int[] marks = {1, 2, 4, 8, 13};
        int[] worth = {3, 0, 9, 1, 7};
        for (int v = 0; v < 5; v++) {
            due("marks", marks[v], x.virtue(v, 0));
            due("worth", worth[v], x.virtue(v, 1));
        }
        due("no such", BAD, x.virtue(5, 0));
        due("what 2", BAD, x.virtue(0, 2));
        due("what -1", BAD, x.virtue(0, -1));
        for (int far : FAR) due("far", BAD, x.virtue(far, 0));
        promise = 7;
        int[][] says = {{3, 1, 3}, {12, 8, 0}, {0, 0, 9}};
        for (int c = 0; c < 3; c++) for (int what = 0; what < 3; what++) due("claimant " + c + " " + what, says[c][what], x.claimant(c, what));
        due("no such", BAD, x.claimant(3, 0));
        due("what 3", BAD, x.claimant(0, 3));
        due("what -1", BAD, x.claimant(0, -1));
        for (int far : FAR) due("far", BAD, x.claimant(far, 0));
        x.type(1, ';');
        due("with a FAULT as if empty", BAD, x.claimant(0, 0));
        due("virtues stand", 1, x.virtue(0, 0));
    }

    static void rules() {
        promise = 8;
        FoundVirtues x = new FoundVirtues();
        due("ENOUGH 0", 2, x.set(0, 0));
        due("ENOUGH 4", 0, x.set(0, 4));
        due("ENOUGH 5", BAD, x.set(0, 5));
        due("ENOUGH -1", BAD, x.set(0, -1));
        due("ENOUGH stands", 4, x.set(0, 2));
        due("SECRET 15", 0, x.set(1, 15));
        due("SECRET 16", BAD, x.set(1, 16));
        due("SECRET -1", BAD, x.set(1, -1));
        due("SECRET 0", 15, x.set(1, 0));
        due("KEPT 9", 3, x.set(2, 9));
        due("KEPT 10", BAD, x.set(2, 10));
        due("KEPT 0", BAD, x.set(2, 0));
        due("KEPT 1", 9, x.set(2, 1));
        due("what 3", BAD, x.set(3, 1));
        due("what -1", BAD, x.set(-1, 1));
    }

    static void books() {
        promise = 9;
        FoundVirtues x = new FoundVirtues();
        due("week 40", BAD, x.handing(40, 0));
        due("week -1", BAD, x.handing(-1, 0));
        due("virtue 8", BAD, x.handing(0, 8));
        due("virtue -1", BAD, x.handing(0, -1));
        due("at the edge", 1, x.handing(39, 7));
        for (int n = 2; n <= 12; n++) due("handing", n, x.handing(0, 0));
        due("the 13th", FULL, x.handing(0, 0));
        due("BAD ahead of FULL", BAD, x.handing(40, 0));
        due("how many", 12, x.count(4));
        promise = 10;
        due("week 40", BAD, x.claim(40, 0));
        due("week -1", BAD, x.claim(-1, 0));
        due("claimant 8", BAD, x.claim(0, 8));
        due("claimant -1", BAD, x.claim(0, -1));
        due("at the edge", 1, x.claim(39, 7));
        for (int n = 2; n <= 12; n++) due("claim", n, x.claim(0, 0));
        due("the 13th", FULL, x.claim(0, 0));
        due("BAD ahead of FULL", BAD, x.claim(0, 8));
        due("how many", 12, x.count(5));
        promise = 11;
        due("back 0", 11, x.back(0));
        due("claims stand", 12, x.count(5));
        for (int n = 11; n >= 0; n--) due("back 1", n, x.back(1));
        due("no claim", NOT, x.back(1));
        due("handings stand", 11, x.count(4));
        due("what 2", BAD, x.back(2));
        due("what -1", BAD, x.back(-1));
        FoundVirtues y = office("llll1;hhhh1", "");
        y.handing(0, 0);
        y.handing(0, 1);
        y.back(0);
        due("the last is undone", 1, y.behind(0, 0));
    }

    static void putAll(FoundVirtues x, int s, int form, int... items) {
        x.sheet(s, form, items.length);
        for (int i = 0; i < items.length; i++) x.put(s, form, i, items[i]);
    }

    static void reading() {
        promise = 12;
        FoundVirtues x = office("llll1", "llll0;hhhh0");
        due("s 4", BAD, x.read(4));
        due("s -1", BAD, x.read(-1));
        due("LOST", NULL, x.read(0));
        due("count 8", 1, x.count(8));
        x.sheet(0, 2, 0);
        due("no items", 0, x.read(0));
        x.sheet(0, 2, 1);
        due("half a one", 0, x.read(0));
        putAll(x, 0, 2, 3, 0, 4, 1, 5);
        due("whole ones", 2, x.read(0));
        due("behind those told", 4, x.read(0) + x.claim(0, 0) - 3);
        due("claims", 5, x.count(5));
        putAll(x, 1, 1, 0, 0, 40, 0, 0, 0);
        due("up to the first refused", 1, x.read(1));
        putAll(x, 1, 1, 0, 8, 0, 0);
        due("the first refused", 0, x.read(1));
        putAll(x, 1, 0, 0, 0, 0, 0, 0, 0, 0, 0, 0, 0, 0, 0, 0, 0);
        due("up to FULL", 6, x.read(1));
        due("FULL", 0, x.read(1));
        due("claims", 12, x.count(5));
        FoundVirtues y = office("llll1", "llll0;hhhh0");
        y.handing(0, 0);
        putAll(y, 3, 0, 2, 0);
        y.read(3);
        due("given in its week", 2, y.gone(0, 1));
    }

    static void weeksAsTheyGo() {
        promise = 13;
        FoundVirtues x = office("llll5;llll2;llll2;hhhh9", "ll??5;??ll0;l???0");
        x.handing(1, 0);
        x.handing(1, 1);
        x.handing(1, 2);
        x.handing(2, 3);
        due("ahead", 0, x.behind(0, 0));
        due("on the shelf", 7, x.behind(1, 0));
        due("in the second", 15, x.behind(2, 0));
        due("sold in the third", 8, x.behind(3, 0));
        due("sold bits", 7, x.behind(3, 2));
        due("sold bits stay", 15, x.behind(39, 2));
        x.claim(1, 0);
        x.claim(1, 1);
        due("both in one week", 1, x.behind(1, 0));
        due("given bits", 6, x.behind(1, 1));
        promise = 14;
        due("less RICH first takes the least number of like WORTH", 1, x.gone(1, 0));
        due("then the richer one", 0, x.gone(2, 0));
        due("in that week", 1, x.gone(2, 1));
        due("sold to nobody", NONE, x.gone(0, 0));
        due("sold in the third week", 3, x.gone(0, 1));
        due("no such", BAD, x.gone(4, 0));
        due("what 2", BAD, x.gone(0, 2));
        due("what -1", BAD, x.gone(0, -1));
        for (int far : FAR) due("far", BAD, x.gone(far, 0));
        promise = 13;
        x.claim(1, 2);
        due("says too little", 1, x.behind(1, 0));
        x.set(0, 1);
        due("says enough", 0, x.behind(1, 0));
        due("first as poor, told last", 1, x.gone(1, 0));
        due("second of the poor", 2, x.gone(2, 0));
        due("the rich one last", 0, x.gone(0, 0));
        x.set(2, 1);
        due("KEPT 1: never behind", 0, x.behind(2, 0));
        due("KEPT 1: sold at once", 8, x.behind(2, 2));
        x.set(2, 9);
        due("KEPT 9: there in the 8th", 8, x.behind(9, 0));
        due("KEPT 9: sold in the 9th", 0, x.behind(10, 0));
        due("week 40", BAD, x.behind(40, 0));
        due("week -1", BAD, x.behind(-1, 0));
        due("what 3", BAD, x.behind(0, 3));
        due("what -1", BAD, x.behind(0, -1));
        FoundVirtues y = office("llll5", "llll0");
        y.handing(0, 0);
        y.handing(2, 0);
        y.handing(5, 0);
        y.handing(5, 1);
        due("sold", 0, y.behind(2, 0));
        due("gone for good", 0, y.behind(5, 0));
        due("a late one is never gone", NONE, office("llll1", "").gone(0, 1));
        FoundVirtues z = office("llll5", "llll0");
        z.handing(38, 0);
        due("at the end on the shelf", 1, z.behind(39, 0));
        due("at the end not gone", NONE, z.gone(0, 1));
        z.claim(37, 0);
        due("too early", 1, z.behind(38, 0));
        z.claim(39, 0);
        due("in the last week", 39, z.gone(0, 1));
        z.wipe(1);
        due("without CLAIMANTS", 1, z.behind(39, 0));
        z.type(0, ';');
        due("without VIRTUES", 0, z.behind(39, 0));
    }

    static void emptySaleSaint() {
        promise = 15;
        FoundVirtues x = office("llll4;hhhh9", "llll3;ll??1;hhhh0");
        due("no claims", 0, x.empty());
        x.handing(0, 0);
        x.claim(0, 0);
        x.claim(0, 1);
        x.claim(5, 6);
        due("the poorer is given", 5, x.empty());
        promise = 17;
        due("the richer comes behind it", 0, x.saint());
        x.back(1);
        x.back(1);
        due("none", NONE, x.saint());
        x.claim(1, 1);
        x.claim(1, 2);
        due("claim 1 after claim 0", 1, x.saint());
        x.handing(2, 1);
        due("claimant 2 fits nothing gone", 6, x.empty());
        promise = 16;
        due("sold", 9, x.sale());
        x.back(0);
        due("nothing sold", 0, x.sale());
        FoundVirtues y = office("llll4;hhhh9;hhhh7", "");
        y.handing(37, 0);
        y.handing(37, 1);
        y.handing(38, 2);
        due("sold in week 39", 13, y.sale());
        promise = 17;
        FoundVirtues z = office("llll4", "????0;llll5;llll5");
        z.handing(0, 0);
        z.claim(9, 0);
        z.claim(4, 2);
        z.claim(4, 1);
        due("by WEEKS; of like ones as told", 1, z.saint());
        z.back(1);
        z.back(1);
        due("SAYS too little, FITS what was sold", 0, z.saint());
        z.claim(2, 0);
        due("sold behind the claims of its week", 0, z.saint());
        z.claim(3, 0);
        due("an earlier week told later", 2, z.saint());
        z.wipe(1);
        due("nobody there", NONE, z.saint());
        promise = 15;
        due("also of CLAIMANTS that there are not", 7, z.empty());
    }

    static void fitsAndMatches() {
        promise = 18;
        FoundVirtues x = office("llll1;hlll2;lhhh3", "l???0;?l??0;hhhh0;????0");
        int[] ofClaimants = {5, 3, 0, 7};
        int[] ofVirtues = {11, 10, 9};
        for (int c = 0; c < 4; c++) due("of claimant " + c, ofClaimants[c], x.fitting(0, c));
        for (int v = 0; v < 3; v++) due("of virtue " + v, ofVirtues[v], x.fitting(1, v));
        due("no claimant", BAD, x.fitting(0, 4));
        due("no virtue", BAD, x.fitting(1, 3));
        due("what 2", BAD, x.fitting(2, 0));
        due("what -1", BAD, x.fitting(-1, 0));
        for (int far : FAR) due("far", BAD, x.fitting(0, far) + x.fitting(1, far) - BAD);
        promise = 19;
        due("how many", 3, x.match(-2));
        due("worth", 6, x.match(-1));
        due("least row", 0, x.match(0));
        due("least row", 1, x.match(1));
        due("least row", 3, x.match(2));
        due("no such VIRTUE", NONE, x.match(7));
        due("8", BAD, x.match(8));
        due("-3", BAD, x.match(-3));
        for (int k = 1; k < 3; k++) due("far", BAD, x.match(FAR[k]));
        FoundVirtues y = office("llll1;llll9;llll9", "llll0;????0");
        due("two", 2, y.match(-2));
        due("the greatest WORTH", 18, y.match(-1));
        due("none of the least WORTH", NONE, y.match(0));
        due("least row", 0, y.match(1));
        due("least row", 1, y.match(2));
        FoundVirtues z = office("llll9;hhhh0;llll0", "????0;llll0");
        due("number ahead of the row", 2, z.match(-2));
        due("worth", 9, z.match(-1));
        due("0 has the first, as any is less than none", 0, z.match(0));
        due("so 1 has none", NONE, z.match(1));
        due("and 2 the other", 1, z.match(2));
        FoundVirtues all = office("llll9;llll9;llll9;llll9;llll9;llll9;llll9;llll9",
            "????0;????0;????0;????0;????0;????0;????0;????0");
        due("eight", 8, all.match(-2));
        due("worth of eight", 72, all.match(-1));
        for (int v = 0; v < 8; v++) due("row of eight", v, all.match(v));
    }

    static void askAndLie() {
        promise = 20;
        FoundVirtues x = office("llll1;hlll2;hhll3;hhhl3", "????0;h???0;llll0;???l9;lll?0");
        due("halves best: SIZE", 1, x.ask(0));
        due("of like ones the least", 1, x.ask(1));
        due("SAYS all", NONE, x.ask(2));
        due("among what it SAYS not", 1, x.ask(3));
        due("the one that is left", 3, x.ask(4));
        due("no such", BAD, x.ask(5));
        for (int far : FAR) due("far", BAD, x.ask(far));
        x.wipe(0);
        due("no VIRTUES: the least", 0, x.ask(0));
        promise = 21;
        FoundVirtues y = office("llll1;hlll2;hhll3;hhhl3", "");
        due("ENOUGH 2", 3, y.lie(0));
        due("ENOUGH 2", 3, y.lie(1));
        due("two sorts", 6, y.lie(2));
        due("one would do, two are ENOUGH", 5, y.lie(3));
        y.set(0, 0);
        due("ENOUGH 0", 1, y.lie(0));
        due("ENOUGH 0", 4, y.lie(3));
        y.set(0, 4);
        due("ENOUGH 4", 15, y.lie(0));
        due("no such", BAD, y.lie(4));
        for (int far : FAR) due("far", BAD, y.lie(far));
        FoundVirtues alone = office("lhlh1", "");
        alone.set(0, 0);
        due("alone nothing is said", 0, alone.lie(0));
        due("its like", NONE, office("lhlh1;lhlh2", "").lie(1));
    }

    static void guessAndGuard() {
        promise = 22;
        FoundVirtues x = office("llll1;llll2;hlll3;lhll4;hhhh0;llll9;hlll0", "");
        due("none SECRET", 1, x.guess(0, 0));
        due("none SECRET", 1, x.guess(0, 1));
        x.set(1, 1);
        due("3 of 5", 3, x.guess(2, 0));
        due("3 of 5", 5, x.guess(2, 1));
        due("alone", 1, x.guess(3, 0));
        due("alone", 1, x.guess(3, 1));
        x.set(1, 3);
        due("3 of 6 is 1 by 2", 1, x.guess(3, 0));
        due("3 of 6 is 1 by 2", 2, x.guess(3, 1));
        x.set(1, 15);
        due("3 of 7", 3, x.guess(4, 0));
        due("3 of 7", 7, x.guess(4, 1));
        long bad = Long.MIN_VALUE + 2;
        due("no such", bad, x.guess(7, 0));
        due("what 2", bad, x.guess(0, 2));
        due("what -1", bad, x.guess(0, -1));
        for (int far : FAR) due("far", bad, x.guess(far, 0));
        promise = 23;
        due("sixteenths 17", BAD, x.guard(17));
        due("sixteenths -1", BAD, x.guard(-1));
        due("16 needs none", 0, x.guard(16));
        due("7: 3 by 7 is above 6 by 16", 15, x.guard(7));
        due("6", NONE, x.guard(6));
        due("SECRET as told stands", 15, x.set(1, 0));
        FoundVirtues y = office("llll1;lllh1;llhl1;llhh1", "");
        due("a half by one sort, the least", 4, y.guard(8));
        due("a half by one sort", 4, y.guard(15));
        due("a quarter by two", 12, y.guard(4));
        due("a quarter by two", 12, y.guard(7));
        due("less never", NONE, y.guard(3));
        due("no VIRTUES", 0, new FoundVirtues().guard(0));
    }

    static void shelvesAndPairs() {
        promise = 24;
        FoundVirtues x = office("llll1;hlll2;lhhh3;llll0", "l???0;ll??0;l?hh0;????0");
        due("steps", 3 + 6 + 9 + 4, x.shelves(-1));
        int[] row = {0, 2, 3, 1, NONE, NONE};
        for (int i = 0; i < 6; i++) due("row", row[i], x.shelves(i));
        due("6", BAD, x.shelves(6));
        due("-2", BAD, x.shelves(-2));
        for (int k = 1; k < 3; k++) due("far", BAD, x.shelves(FAR[k]));
        FoundVirtues y = office(EIGHT, "h???0;?h??0;????0");
        int[] ofSix = {3, 1, 2, 5, 0, 4};
        for (int i = 0; i < 6; i++) due("the first six alone", ofSix[i], y.shelves(i));
        due("steps of six", 3 + 4 + 6 + 8 + 5 + 6, y.shelves(-1));
        promise = 25;
        FoundVirtues z = office("llll1;hlll1;hhll1;lhll1;hhhh1", "");
        due("pairs", 2, z.together(-1));
        int[] other = {1, 0, 3, 2, NONE, NONE, NONE, NONE};
        for (int v = 0; v < 8; v++) due("other", other[v], z.together(v));
        due("8", BAD, z.together(8));
        due("-2", BAD, z.together(-2));
        for (int k = 1; k < 3; k++) due("far", BAD, z.together(FAR[k]));
        FoundVirtues path = office("hlll1;llll1;hhll1;lllh1", "");
        due("the most ahead of the least row", 2, path.together(-1));
        due("so not with 1", 2, path.together(0));
        due("but 1 with 3", 3, path.together(1));
        due("like marks are no PAIR", 0, office("llll1;llll2", "").together(-1));
        due("two unlike marks are no PAIR", 0, office("llll1;hhll2", "").together(-1));
        FoundVirtues eight = office(EIGHT, "");
        due("four", 4, eight.together(-1));
        for (int v = 0; v < 8; v++) due("of eight", v ^ 1, eight.together(v));
        due("any is less than none", 1, office("llll1;hlll1;llll1", "").together(0));
    }

    static void seenAndLots() {
        promise = 26;
        FoundVirtues x = office("llll1;hhhh2", "llll0");
        due("week 40", BAD, x.seen(40, 0, 0));
        due("week -1", BAD, x.seen(-1, 0, 0));
        due("virtue 8", BAD, x.seen(0, 8, 0));
        due("virtue -1", BAD, x.seen(0, -1, 0));
        due("is 2", BAD, x.seen(0, 0, 2));
        due("is -1", BAD, x.seen(0, 0, -1));
        for (int n = 1; n <= 8; n++) due("seen", n, x.seen(39, 7, 0));
        due("the 9th", FULL, x.seen(0, 0, 0));
        due("BAD ahead of FULL", BAD, x.seen(0, 0, 2));
        promise = 27;
        due("forget", 8, x.forget());
        due("forget nothing", 0, x.forget());
        due("count", 0, x.count(6));
        promise = 28;
        due("nothing SEEN", (1 << 20) - 1, x.when(0));
        x.seen(5, 0, 1);
        due("two weeks behind which it stands", 1 << 4 | 1 << 5, x.when(0));
        due("it is not 1", 0, x.when(1));
        x.claim(5, 0);
        due("claimed in that week", 0, x.when(0));
        x.back(1);
        x.claim(4, 0);
        due("claimed a week before", 1 << 5, x.when(0));
        x.back(1);
        x.seen(4, 0, 0);
        due("not a week before", 1 << 5, x.when(0));
        x.forget();
        x.seen(39, 0, 0);
        due("WEEKS 0 to 19 alone", (1 << 20) - 1, x.when(0));
        x.seen(20, 0, 1);
        due("from 19", 1 << 19, x.when(0));
        for (int n = 0; n < 12; n++) x.handing(39, 1);
        due("one HANDING more than 12", 1 << 19, x.when(0));
        due("HANDINGS stand", 12, x.count(4));
        due("no such", BAD, x.when(2));
        for (int far : FAR) due("far", BAD, x.when(far));
        due("behind() as told", 0, x.behind(20, 0));
    }

    static void lots() {
        promise = 29;
        FoundVirtues x = office("llll1", "llll0");
        due("given at once", 1, x.weeks(5, 1, 0));
        due("none sold", 0, x.weeks(5, 40, 1));
        due("n 0", BAD, x.weeks(5, 0, 0));
        due("n 41", BAD, x.weeks(5, 41, 0));
        due("what 2", BAD, x.weeks(5, 1, 2));
        due("what -1", BAD, x.weeks(5, 1, -1));
        due("nothing is told by it", 0, x.count(4) + x.count(5) + x.behind(39, 1));
        x.wipe(1);
        due("no CLAIMANTS, no LOTS", 0, x.weeks(5, 40, 1));
        x.handing(4, 0);
        due("what is told is run", 1, x.weeks(5, 40, 1));
        due("up to the last WEEK", 0, x.weeks(5, 6, 1));
        due("with the last WEEK", 1, x.weeks(5, 7, 1));
        // By SEED 0 the LOTS are 0 and 54236, before they are taken modulo m.
        FoundVirtues y = office("hhhh1;llll1", "hhhh0;l???0");
        due("VIRTUE 0 for CLAIMANT 0", 1, y.weeks(0, 1, 0));
        FoundVirtues z = office("llll1;hhhh1", "hhhh0;ll??0");
        due("VIRTUE 0 not for CLAIMANT 0", 0, z.weeks(0, 1, 0));
        FoundVirtues three = office("llll1;hhhh1", "hhhh0;hhhh0;ll??0");
        due("VIRTUE 0 for CLAIMANT 2", 1, three.weeks(0, 1, 0));
        FoundVirtues w = office("llll1;llll2", "llll3;ll??3");
        w.handing(0, 1);
        w.claim(0, 1);
        due("with what is told", 2, w.weeks(0, 1, 0));
        FoundVirtues k = office("llll1;llhl2", "ll??3;llll3");
        k.handing(0, 1);
        k.claim(0, 1);
        due("behind what is told", 2, k.weeks(0, 1, 0));
    }

    static void sheets() {
        promise = 30;
        FoundVirtues x = new FoundVirtues();
        due("s 4", BAD, x.sheet(4, 0, 1));
        due("s -1", BAD, x.sheet(-1, 0, 1));
        due("form 3", BAD, x.sheet(0, 3, 1));
        due("form -1", BAD, x.sheet(0, -1, 1));
        due("49", BAD, x.sheet(0, 0, 49));
        due("no FINDING yet", 0, x.count(8));
        due("BAD ahead of SIZE", BAD, x.sheet(4, 0, -1));
        due("SIZE", SIZE, x.sheet(0, 0, -1));
        due("SIZE", SIZE, x.sheet(0, 0, Integer.MIN_VALUE));
        due("count 8", 5, x.count(8));
        due("still LOST", NULL, x.lose(0));
        due("none", 0, x.sheet(0, 0, 0));
        due("48", 48, x.sheet(0, 2, 48));
        due("all 0", 0, x.get(0, 2, 47));
        x.put(0, 2, 3, 77);
        due("SIZE changes nothing", SIZE, x.sheet(0, 0, -5));
        due("as it was", 77, x.get(0, 2, 3));
        due("anew", 10, x.sheet(0, 2, 10));
        due("all 0 again", 0, x.get(0, 2, 3));
        promise = 31;
        due("lose", 10, x.lose(0));
        due("lose again", NULL, x.lose(0));
        due("count 8", 1, x.count(8));
        due("s 4", BAD, x.lose(4));
        due("s -1", BAD, x.lose(-1));
        x.sheet(1, 0, 0);
        due("of no items", 0, x.lose(1));
    }

    static void putAndGet() {
        FoundVirtues x = new FoundVirtues();
        for (int form = 0; form < 3; form++) x.sheet(form, form, 4);
        int[] values = {127, 128, 255, 256, -129, 32768, 65535, 70000, Integer.MAX_VALUE, Integer.MIN_VALUE, -1};
        for (int v : values) {
            promise = 32;
            for (int form = 0; form < 3; form++) due("put", 1, x.put(form, form, 3, v));
            promise = 33;
            due("byte", (byte) v, x.get(0, 0, 3));
            due("short", (short) v, x.get(1, 1, 3));
            due("int", v, x.get(2, 2, 3));
        }
        promise = 32;
        due("s 4", BAD, x.put(4, 0, 0, 1));
        due("s -1", BAD, x.put(-1, 0, 0, 1));
        due("form 3", BAD, x.put(0, 3, 0, 1));
        due("form -1", BAD, x.put(3, -1, 0, 1));
        due("no FINDING yet", 0, x.count(8));
        due("NULL ahead of CAST, INDEX", NULL, x.put(3, 1, 99, 1));
        due("count 8", 1, x.count(8));
        due("CAST ahead of INDEX", CAST, x.put(0, 1, 99, 1));
        due("count 8", 3, x.count(8));
        due("INDEX above", INDEX, x.put(0, 0, 4, 1));
        due("INDEX below", INDEX, x.put(0, 0, -1, 1));
        due("count 8", 2, x.count(8));
        for (int far : FAR) due("far", INDEX, x.put(2, 2, far, 1));
        promise = 33;
        due("BAD", LEAST, x.get(4, 0, 0));
        due("BAD", LEAST, x.get(-1, 0, 0));
        due("BAD", LEAST, x.get(0, 3, 0));
        due("BAD", LEAST, x.get(0, -1, 0));
        due("BAD tells nothing", 2, x.count(8));
        due("NULL", LEAST, x.get(3, 0, 9));
        due("count 8", 1, x.count(8));
        due("CAST", LEAST, x.get(2, 0, 9));
        due("count 8", 3, x.count(8));
        due("INDEX", LEAST, x.get(2, 2, 4));
        due("count 8", 2, x.count(8));
        for (int far : FAR) due("far", LEAST, x.get(2, 2, far));
    }

    static void copies() {
        promise = 34;
        FoundVirtues x = new FoundVirtues();
        putAll(x, 0, 1, 1, 2, 3, 4, 5);
        x.sheet(1, 1, 3);
        x.sheet(2, 2, 3);
        due("s 4", BAD, x.copy(4, 0, 0, 0, 0));
        due("t -1", BAD, x.copy(0, 0, -1, 0, 0));
        due("BAD ahead of NULL", BAD, x.copy(3, 0, 4, 0, 0));
        due("no FINDING yet", 0, x.count(8));
        due("s LOST", NULL, x.copy(3, -1, 2, 0, 0));
        due("t LOST", NULL, x.copy(0, 0, 3, 0, 0));
        due("STORE ahead of INDEX", STORE, x.copy(0, -1, 2, 0, 0));
        due("count 8", 4, x.count(8));
        due("STORE of none, too", STORE, x.copy(0, 0, 2, 0, 0));
        due("i", INDEX, x.copy(0, -1, 1, 0, 1));
        due("j", INDEX, x.copy(0, 0, 1, -1, 1));
        due("n", INDEX, x.copy(0, 0, 1, 0, -1));
        due("not so many in s", INDEX, x.copy(0, 4, 1, 0, 2));
        due("not so many in t", INDEX, x.copy(0, 0, 1, 1, 3));
        due("i above the size", INDEX, x.copy(0, 6, 1, 0, 0));
        due("j above the size", INDEX, x.copy(0, 0, 1, 4, 0));
        due("count 8", 2, x.count(8));
        for (int k = 1; k < 3; k++) {
            due("far i", INDEX, x.copy(0, FAR[k], 1, 0, 1));
            due("far j", INDEX, x.copy(0, 0, 1, FAR[k], 1));
            due("far n", INDEX, x.copy(0, 1, 1, 1, FAR[k]));
        }
        due("all far", INDEX, x.copy(0, Integer.MAX_VALUE, 1, Integer.MAX_VALUE, Integer.MAX_VALUE));
        due("none at both ends", 1, x.copy(0, 5, 1, 3, 0));
        due("two", 1, x.copy(0, 3, 1, 1, 2));
        due("untouched", 0, x.get(1, 1, 0));
        due("first", 4, x.get(1, 1, 1));
        due("second", 5, x.get(1, 1, 2));
        due("onto itself, up", 1, x.copy(0, 0, 0, 1, 4));
        int[] up = {1, 1, 2, 3, 4};
        for (int i = 0; i < 5; i++) due("as they were", up[i], x.get(0, 1, i));
        due("onto itself, down", 1, x.copy(0, 2, 0, 0, 3));
        int[] down = {2, 3, 4, 3, 4};
        for (int i = 0; i < 5; i++) due("as they were", down[i], x.get(0, 1, i));
    }

    static void writing() {
        promise = 35;
        FoundVirtues x = office(EIGHT, "");
        x.handing(1, 7);
        x.handing(2, 0);
        x.sheet(0, 0, 48);
        x.sheet(1, 1, 3);
        x.put(0, 0, 40, 99);
        x.put(0, 0, 39, 99);
        due("s 4", BAD, x.write(4));
        due("s -1", BAD, x.write(-1));
        due("no FINDING yet", 0, x.count(8));
        due("LOST", NULL, x.write(2));
        due("count 8", 1, x.count(8));
        due("40 at most", 40, x.write(0));
        int[] bytes = {0, -128, -127, 1, 0};
        for (int i = 0; i < 5; i++) due("as bytes", bytes[i], x.get(0, 0, i));
        due("item 39 is written", 0, x.get(0, 0, 39));
        due("item 40 is not", 99, x.get(0, 0, 40));
        due("as many as there are", 3, x.write(1));
        due("as shorts", 129, x.get(1, 1, 2));
        x.sheet(3, 2, 0);
        due("no items", 0, x.write(3));
        FoundVirtues y = office("llll1", "");
        y.handing(0, 0);
        y.sheet(0, 0, 1);
        y.write(0);
        due("from WEEK 0 on", 1, y.get(0, 0, 0));
    }

    static void counts() {
        promise = 36;
        FoundVirtues x = office("llll4;hhhh9;llhh8", "????0;llll1");
        x.handing(0, 0);
        x.claim(0, 0);
        x.claim(0, 0);
        x.seen(0, 0, 1);
        x.seen(0, 0, 1);
        x.seen(0, 0, 1);
        x.lose(0);
        int[] counts = {3, 2, 17, 11, 1, 2, 3, 21, 1};
        for (int what = 0; what <= 8; what++) due("count " + what, counts[what], x.count(what));
        due("9", BAD, x.count(9));
        due("-1", BAD, x.count(-1));
        for (int far : FAR) due("far", BAD, x.count(far));
        x.type(0, 'l');
        due("with a FAULT", 0, x.count(0) + x.count(7));
        due("bytes stand", 18, x.count(2));
        due("BAD is no FINDING", 1, x.count(8));
    }

    static void digests() {
        promise = 37;
        // With nothing told: zeroes for count(), NONE for both faults, zeroes, saint NONE, zeroes, shelves(0) NONE.
        int[] answers = {0, 0, 0, 0, 0, 0, 0, 0, -1, -1, 0, 0, 0, 0, 0, 0, 0, 0, 0, 0, 0, 0, 0, 0, -1, 0, 0, 0, 0, -1, 0, 0, 0};
        long h = 17;
        for (int a : answers) h = 31 * h + a;
        FoundVirtues x = new FoundVirtues();
        due("of a new one", h, x.digest());
        due("it changes nothing", h, x.digest());
        x.lose(0);
        due("count() 8 is not in it", h, x.digest());
        x.sheet(0, 0, 5);
        due("nor are SHEETS", h, x.digest());
        x.set(0, 1);
        x.set(1, 5);
        due("nor rules that nothing shows", h, x.digest());
        x.seen(0, 0, 0);
        long withSeen = x.digest();
        due("SEEN is", 1, withSeen == h ? 0 : 1);
        FoundVirtues y = office("llll4;hhhh9;llhh8", "????0;llll1");
        FoundVirtues z = office("llll4;hhhh9;llhh8", "????0;llll1");
        due("the same calls", y.digest(), z.digest());
        z.set(1, 15);
        due("GUESS is in it", 1, y.digest() == z.digest() ? 0 : 1);
        z.set(1, 0);
        z.set(0, 4);
        due("LIE is in it", 1, y.digest() == z.digest() ? 0 : 1);
    }

    static long h;

    static void mix(long... answers) {
        for (long a : answers) h = 31 * h + a;
    }

    /** The digest as the document tells it, from the answers of the other calls. */
    static long toldDigest(FoundVirtues x) {
        h = 17;
        for (int what = 0; what <= 7; what++) mix(x.count(what));
        mix(x.fault(0), x.fault(1));
        for (int v = 0; v < x.count(0); v++) {
            mix(x.virtue(v, 0), x.virtue(v, 1), x.gone(v, 0), x.gone(v, 1), x.fitting(1, v), x.match(v), x.lie(v));
            mix(x.guess(v, 0), x.guess(v, 1), x.together(v), x.when(v));
        }
        for (int c = 0; c < x.count(1); c++) mix(x.claimant(c, 0), x.claimant(c, 1), x.claimant(c, 2), x.fitting(0, c), x.ask(c));
        for (int week : new int[] {0, 1, 5, 39}) mix(x.behind(week, 0), x.behind(week, 1), x.behind(week, 2));
        mix(x.empty(), x.sale(), x.saint(), x.match(-2), x.match(-1), x.guard(8), x.shelves(-1), x.shelves(0), x.together(-1));
        mix(x.weeks(7, 20, 0), x.weeks(7, 20, 1));
        return h;
    }

    static void fullDigests() {
        promise = 37;
        FoundVirtues x = office("hlll3;llll4;hhhh9;llhh8;llhh0;lhlh2", "????0;l?ll1;ll?h7;hhh?3");
        x.set(1, 6);
        int[][] handed = {{0, 1}, {0, 3}, {1, 2}, {1, 0}, {4, 4}, {5, 5}};
        int[][] claimed = {{0, 1}, {1, 0}, {2, 3}, {5, 2}, {6, 2}, {6, 7}};
        for (int[] one : handed) x.handing(one[0], one[1]);
        for (int[] one : claimed) x.claim(one[0], one[1]);
        due("of a full office", toldDigest(x), x.digest());
        x.seen(5, 4, 1);
        due("with SEEN", toldDigest(x), x.digest());
        x.type(1, 'l');
        due("with a FAULT", toldDigest(x), x.digest());
        FoundVirtues y = office("hlll3", "");
        y.handing(17, 0);
        due("sold in the 20th WEEK", toldDigest(y), y.digest());
        y.back(0);
        y.handing(18, 0);
        due("sold in the 21st WEEK", toldDigest(y), y.digest());
    }

    static void constants() {
        promise = 0;
        due("NONE", -1, FoundVirtues.NONE);
        due("BAD", -2, FoundVirtues.BAD);
        due("NOT", -3, FoundVirtues.NOT);
        due("FULL", -4, FoundVirtues.FULL);
    }

    public static void main(String[] args) {
        constants();
        aNewObject();
        texts();
        faults();
        virtuesAndClaimants();
        rules();
        books();
        reading();
        weeksAsTheyGo();
        emptySaleSaint();
        fitsAndMatches();
        askAndLie();
        guessAndGuard();
        shelvesAndPairs();
        seenAndLots();
        lots();
        sheets();
        putAndGet();
        copies();
        writing();
        counts();
        digests();
        fullDigests();
        System.out.println(asked + " answers, " + wrong + " not as due");
        if (wrong != 0) System.exit(1);
    }
}
