import java.lang.reflect.Method;
import java.util.ArrayList;
import java.util.Arrays;
import java.util.HashMap;
import java.util.List;
import java.util.Map;

/**
 * Refused calls: which refusal comes first, and that everything stays as it was. What stays is seen by
 * asking all that can be asked of the object and of a twin to which the refused calls never came.
 */
public final class RefusalsTest {
    static final long BAD = -2, NOT = -3, FULL = -4;
    static final long NULL = -11, INDEX = -12, CAST = -13, STORE = -14, SIZE = -15;
    static final int MIN = Integer.MIN_VALUE, MAX = Integer.MAX_VALUE;
    static final int CALLS = 512;
    static final int BATCH = 60;
    static final int PICTURES = 4;
    static final Map<String, Method> FACE = new HashMap<>();
    static int wrong = 0;
    static int asked = 0;

    record Call(String name, int... args) {
        @Override public String toString() { return name + Arrays.toString(args); }
    }

    /** A call that is refused, with its answer and the FINDING that count() 8 tells behind it (-1: as it was). */
    record Refused(Call call, long want, int finding) { }

    /** An object that counts its calls, as nothing is promised beyond 512. */
    static final class Counted {
        final FoundVirtues x = new FoundVirtues();
        int calls = 0;

        long ask(Call call) {
            if (++calls > CALLS) throw new IllegalStateException("a test makes more than 512 calls");
            Object[] boxed = new Object[call.args.length];
            for (int i = 0; i < boxed.length; i++) boxed[i] = call.args[i];
            try {
                return ((Number) FACE.get(call.name).invoke(x, boxed)).longValue();
            } catch (ReflectiveOperationException e) {
                throw new IllegalStateException(call + " threw", e);
            }
        }
        long ask(String name, int... args) { return ask(new Call(name, args)); }
    }

    static void due(String what, long want, long got) {
        asked++;
        if (want != got) {
            wrong++;
            System.out.println(what + " answered " + got + ", due is " + want);
        }
    }

    // ---- the states in which calls are refused

    static void type(Counted c, int text, String bytes) {
        for (int i = 0; i < bytes.length(); i++) c.ask("type", text, bytes.charAt(i));
    }

    static Counted build(String state) {
        Counted c = new Counted();
        switch (state) {
            case "new": break;
            case "full": full(c); break;
            case "faulty": faulty(c); break;
            default: few(c);
        }
        return c;
    }

    /** Nothing more can come: texts, HANDINGS, CLAIMS, SEEN are full; SHEET 3 is LOST. */
    static void full(Counted c) {
        type(c, 0, "llll5;hlll3;lhll2;hhhl9;llhl2;llhh7;llll0;hhhh9");
        type(c, 1, "ll??3;h???0;????9;l?ll3;hhh?1;??hh2;?l?l0;llhh5");
        for (int i = 0; i < 12; i++) {
            c.ask("handing", i * 3, i % 8);
            c.ask("claim", i * 2 + 1, (i + 3) % 8);
        }
        for (int i = 0; i < 8; i++) c.ask("seen", i * 5 + 4, 7 - i, i == 0 ? 1 : 0);
        c.ask("set", 0, 1);
        c.ask("set", 1, 5);
        c.ask("set", 2, 4);
        c.ask("sheet", 0, 0, 48);
        c.ask("sheet", 1, 1, 5);
        c.ask("sheet", 2, 2, 0);
        for (int i = 0; i < 4; i++) {
            c.ask("put", 0, 0, i, 20 - i);
            c.ask("put", 1, 1, i + 1, 700 + i);
        }
    }

    /** Both texts have a FAULT, and bytes behind it. */
    static void faulty(Counted c) {
        type(c, 0, "llll5;hxll3;lhll2");
        type(c, 1, "ll??3;h???");
        c.ask("handing", 0, 0);
        c.ask("claim", 1, 0);
        c.ask("sheet", 0, 2, 6);
        c.ask("put", 0, 2, 0, MIN);
        c.ask("put", 0, 2, 5, 40);
        c.ask("sheet", 1, 2, 3);
    }

    /** Two VIRTUES, a CLAIMANT, a VIRTUE on the shelf, given; room for more. */
    static void few(Counted c) {
        type(c, 0, "llll5;hlll3");
        type(c, 1, "l?l?3");
        c.ask("handing", 0, 0);
        c.ask("handing", 1, 1);
        c.ask("claim", 1, 0);
        c.ask("claim", 2, 0);
        c.ask("seen", 1, 1, 1);
        c.ask("sheet", 0, 0, 4);
        c.ask("sheet", 1, 0, 4);
        for (int i = 0; i < 4; i++) c.ask("put", 0, 0, i, 11 + i);
    }

    // ---- pictures: all that can be asked, in as many parts as 512 calls need

    static List<Long> picture(Counted c, int part) {
        List<Long> all = new ArrayList<>();
        switch (part) {
            case 0: asks(c, all); break;
            case 1: weeks(c, all); break;
            case 2: texts(c, all); break;
            default: rest(c, all);
        }
        return all;
    }

    static void asks(Counted c, List<Long> all) {
        for (int what = 0; what <= 7; what++) all.add(c.ask("count", what));
        for (int text = 0; text < 2; text++) all.add(c.ask("fault", text));
        for (int k = 0; k < 8; k++) {
            for (int what = 0; what < 2; what++) {
                for (String name : new String[] {"virtue", "gone", "guess"}) all.add(c.ask(name, k, what));
                all.add(c.ask("fitting", what, k));
            }
            for (int what = 0; what < 3; what++) all.add(c.ask("claimant", k, what));
            for (String name : new String[] {"match", "ask", "lie", "together", "when"}) all.add(c.ask(name, k));
        }
        for (int i = -1; i < 6; i++) all.add(c.ask("shelves", i));
        for (int i = 0; i <= 16; i += 4) all.add(c.ask("guard", i));
        for (int i = -2; i < 0; i++) all.add(c.ask("match", i));
        for (int what = 0; what < 2; what++) all.add(c.ask("weeks", 99, 40, what));
        for (String name : new String[] {"empty", "sale", "saint", "digest"}) all.add(c.ask(name));
    }

    static void weeks(Counted c, List<Long> all) {
        for (int week = 0; week < 40; week++) for (int what = 0; what < 3; what++) all.add(c.ask("behind", week, what));
        for (int i = 0; i < 13; i++) {
            all.add(c.ask("back", 0));
            all.add(c.ask("behind", 39, 2));
            all.add(c.ask("back", 1));
            all.add(c.ask("empty"));
        }
    }

    /** The bytes of texts, as they come to light one by one from the end. */
    static void texts(Counted c, List<Long> all) {
        for (int text = 0; text < 2; text++) {
            for (int n = 0; n < 48; n++) {
                all.add(c.ask("undo", text));
                all.add(c.ask("fault", text));
                if (n % 6 == 5) all.add(c.ask("digest"));
            }
        }
    }

    static void rest(Counted c, List<Long> all) {
        for (int s = 0; s < 4; s++) {
            for (int form = 0; form < 3; form++) {
                // SIZE first, so that count() 8 tells of this get() alone.
                c.ask("sheet", s, form, -1);
                all.add(c.ask("get", s, form, 0));
                long found = c.ask("count", 8);
                all.add(found);
                int items = found != 5 ? 0 : s == 0 ? 48 : 6;
                for (int i = 0; i < items; i++) all.add(c.ask("get", s, form, i));
            }
            all.add(c.ask("lose", s));
        }
        for (int what = 0; what < 3; what++) all.add(c.ask("set", what, 1));
        all.add(c.ask("forget"));
    }

    static final Map<String, List<Long>> TWINS = new HashMap<>();

    static List<Long> twin(String state, int part) {
        return TWINS.computeIfAbsent(state + part, key -> picture(build(state), part));
    }

    static void refuse(String state, List<Refused> refusals) {
        for (int from = 0; from < refusals.size(); from += BATCH) {
            List<Refused> some = refusals.subList(from, Math.min(refusals.size(), from + BATCH));
            for (int part = 0; part < PICTURES; part++) unchanged(state, some, part);
        }
    }

    static void unchanged(String state, List<Refused> some, int part) {
        Counted c = build(state);
        for (Refused r : some) {
            long before = part == 0 ? c.ask("count", 8) : 0;
            due(state + ": " + r.call, r.want, c.ask(r.call));
            if (part == 0) due(state + ": count(8) behind " + r.call, r.finding < 0 ? before : r.finding, c.ask("count", 8));
        }
        asked++;
        if (!picture(c, part).equals(twin(state, part))) {
            wrong++;
            System.out.println(state + ": of " + some.size() + " refused calls from " + some.get(0).call + " on one changed something");
        }
    }

    static Refused bad(String name, int... args) {
        long want = name.equals("get") ? MIN : name.equals("guess") ? Long.MIN_VALUE + 2 : BAD;
        return new Refused(new Call(name, args), want, -1);
    }
    static Refused of(long want, String name, int... args) {
        return new Refused(new Call(name, args), want, want > -11 ? -1 : (int) (-10 - want));
    }
    static Refused gets(int finding, int... args) { return new Refused(new Call("get", args), MIN, finding); }

    // ---- BAD: each number just outside and far outside, alone and together with others

    static final int FREE = 77777;

    /** Of a call the least and the greatest number of each argument, in a full office. */
    record Range(String name, int... edges) { }

    static final Range[] RANGES = {
        new Range("type", 0, 1, 0, 255), new Range("wipe", 0, 1), new Range("undo", 0, 1), new Range("fault", 0, 1),
        new Range("virtue", 0, 7, 0, 1), new Range("claimant", 0, 7, 0, 2), new Range("handing", 0, 39, 0, 7),
        new Range("claim", 0, 39, 0, 7), new Range("back", 0, 1), new Range("read", 0, 3), new Range("behind", 0, 39, 0, 2),
        new Range("gone", 0, 7, 0, 1), new Range("fitting", 0, 1, 0, 7), new Range("match", -2, 7), new Range("ask", 0, 7),
        new Range("lie", 0, 7), new Range("guess", 0, 7, 0, 1), new Range("guard", 0, 16), new Range("shelves", -1, 5),
        new Range("together", -1, 7), new Range("seen", 0, 39, 0, 7, 0, 1), new Range("when", 0, 7),
        new Range("weeks", FREE, FREE, 1, 40, 0, 1), new Range("sheet", 0, 3, 0, 2, MIN, 48), new Range("lose", 0, 3),
        new Range("put", 0, 3, 0, 2, FREE, FREE, FREE, FREE), new Range("get", 0, 3, 0, 2, FREE, FREE),
        new Range("copy", 0, 3, FREE, FREE, 0, 3, FREE, FREE, FREE, FREE), new Range("write", 0, 3), new Range("count", 0, 8)};

    static int[] trials(int low, int high) {
        if (low == FREE) return new int[] {MIN, -1, 0, 48, MAX};
        if (low == MIN) return new int[] {MIN, -1, 0, high, high + 1, MAX};
        return new int[] {MIN, low - 1, low, high, high + 1, MAX};
    }

    static void combine(Range range, int at, int[] args, boolean outside, List<Refused> refused, List<Call> taken) {
        if (at == args.length) {
            if (outside) refused.add(bad(range.name, args.clone()));
            else taken.add(new Call(range.name, args.clone()));
            return;
        }
        int low = range.edges[2 * at], high = range.edges[2 * at + 1];
        for (int v : trials(low, high)) {
            args[at] = v;
            combine(range, at + 1, args, outside || (low != FREE && (v < low || v > high)), refused, taken);
        }
    }

    static void bads() {
        for (Range range : RANGES) {
            List<Refused> refused = new ArrayList<>();
            List<Call> taken = new ArrayList<>();
            combine(range, 0, new int[range.edges.length / 2], false, refused, taken);
            refuse("full", refused);
            for (Call call : taken) {
                long got = build("full").ask(call);
                boolean isBad = call.name.equals("guess") ? got < 0 : got == BAD;
                if (!call.name.equals("get")) due("full: whether BAD is " + call, 0, isBad ? 1 : 0);
            }
        }
    }

    /** set() has another range for each thing. */
    static void badRules() {
        List<Refused> refused = new ArrayList<>();
        int[][] ranges = {{0, 4}, {0, 15}, {1, 9}};
        for (int what = 0; what < 3; what++) {
            int low = ranges[what][0], high = ranges[what][1];
            for (int v : new int[] {MIN, -1, low - 1, high + 1, 16, MAX}) refused.add(bad("set", what, v));
            for (int v : new int[] {low, high}) {
                Counted c = build("full");
                due("set " + what + " to " + v, new int[] {1, 5, 4}[what], c.ask("set", what, v));
                due("set " + what + " was " + v, v, c.ask("set", what, low));
            }
        }
        for (int what : new int[] {MIN, -1, 3, MAX}) for (int v : new int[] {MIN, -1, 0, 1, 4, 16, MAX}) refused.add(bad("set", what, v));
        refuse("full", refused);
    }

    /** No such thing: the first VIRTUE and CLAIMANT that there is not. */
    static void noSuchThing() {
        for (String state : new String[] {"new", "faulty", "few"}) {
            int virtues = state.equals("few") ? 2 : 0, claimants = state.equals("few") ? 1 : 0;
            List<Refused> refused = new ArrayList<>();
            for (int k : new int[] {virtues, 7, -1}) {
                for (int what = 0; what < 2; what++) {
                    for (String name : new String[] {"virtue", "gone", "guess"}) refused.add(bad(name, k, what));
                }
                for (String name : new String[] {"lie", "when"}) refused.add(bad(name, k));
                refused.add(bad("fitting", 1, k));
            }
            for (int k : new int[] {claimants, 7, -1}) {
                for (int what = 0; what < 3; what++) refused.add(bad("claimant", k, what));
                refused.add(bad("ask", k));
                refused.add(bad("fitting", 0, k));
            }
            refuse(state, refused);
        }
    }

    // ---- NOT, FULL, FINDINGS

    static void nots() {
        refuse("new", List.of(of(NOT, "undo", 0), of(NOT, "undo", 1), of(NOT, "back", 0), of(NOT, "back", 1),
            bad("undo", 2), bad("undo", -1), bad("back", 2), bad("back", -1)));
    }

    static void fulls() {
        refuse("full", List.of(of(FULL, "type", 0, 0), of(FULL, "type", 0, 255), of(FULL, "type", 1, 'l'), of(FULL, "type", 1, ';'),
            of(FULL, "handing", 0, 0), of(FULL, "handing", 39, 7), of(FULL, "claim", 0, 0), of(FULL, "claim", 39, 7),
            of(FULL, "seen", 0, 0, 0), of(FULL, "seen", 39, 7, 1),
            bad("type", 0, 256), bad("type", 2, 'l'), bad("handing", 40, 0), bad("handing", 0, 8), bad("claim", 40, 0),
            bad("claim", 0, 8), bad("seen", 40, 0, 0), bad("seen", 0, 8, 0), bad("seen", 0, 0, 2)));
        Counted c = build("full");
        c.ask("put", 0, 0, 0, 3);
        c.ask("put", 0, 0, 1, 3);
        due("read into full CLAIMS takes none", 0, c.ask("read", 0));
        due("and is no FINDING", 0, c.ask("count", 8));
        due("CLAIMS stay", 12, c.ask("count", 5));
    }

    static void lostSheets() {
        for (String state : new String[] {"new", "full", "few"}) {
            List<Refused> refused = new ArrayList<>();
            for (int s = state.equals("new") ? 0 : 3; s < 4; s++) {
                for (String name : new String[] {"lose", "read", "write"}) refused.add(of(NULL, name, s));
                for (int form = 0; form < 3; form++) {
                    for (int i : new int[] {MIN, -1, 0, 47, 48, MAX}) {
                        refused.add(of(NULL, "put", s, form, i, 1));
                        refused.add(gets(1, s, form, i));
                    }
                }
                for (int t = 0; t < 4; t++) {
                    refused.add(of(NULL, "copy", s, 0, t, 0, 0));
                    refused.add(of(NULL, "copy", t, -1, s, 99, MIN));
                }
            }
            refuse(state, refused);
        }
    }

    /** BAD ahead of NULL, NULL ahead of the other FINDINGS, CAST ahead of INDEX, STORE ahead of INDEX. */
    static void findings() {
        List<Refused> refused = new ArrayList<>();
        for (int form = 0; form < 3; form++) {
            for (int i : new int[] {MIN, -1, 48, MAX}) {
                refused.add(form == 0 ? of(INDEX, "put", 0, form, i, 5) : of(CAST, "put", 0, form, i, 5));
                refused.add(gets(form == 0 ? 2 : 3, 0, form, i));
            }
            refused.add(form == 2 ? of(INDEX, "put", 2, form, 0, 5) : of(CAST, "put", 2, form, 0, 5));
            refused.add(gets(form == 2 ? 2 : 3, 2, form, 0));
            refused.add(form == 1 ? of(INDEX, "put", 1, form, 5, 5) : of(CAST, "put", 1, form, 5, 5));
            refused.add(gets(form == 1 ? 2 : 3, 1, form, 5));
        }
        refused.add(of(CAST, "put", 0, 2, 0, 5));
        refused.add(of(CAST, "put", 1, 2, 0, 5));
        refused.add(gets(3, 0, 1, 0));
        refused.add(bad("put", 3, 3, 99, 5));
        refused.add(bad("put", 4, 0, 99, 5));
        refused.add(bad("get", 3, -1, 99));
        for (int n : new int[] {-1, MIN}) for (int s = 0; s < 4; s++) for (int form = 0; form < 3; form++) refused.add(of(SIZE, "sheet", s, form, n));
        refused.add(bad("sheet", 4, 0, -1));
        refused.add(bad("sheet", -1, 0, -1));
        refused.add(bad("sheet", 0, 3, -1));
        refused.add(bad("sheet", 0, -1, -1));
        refuse("full", refused);
    }

    static void copies() {
        List<Refused> stores = new ArrayList<>();
        for (int[] pair : new int[][] {{0, 1}, {1, 0}, {0, 2}, {2, 0}, {1, 2}, {2, 1}}) {
            stores.add(of(STORE, "copy", pair[0], 0, pair[1], 0, 0));
            stores.add(of(STORE, "copy", pair[0], 0, pair[1], 0, 1));
            stores.add(of(STORE, "copy", pair[0], -1, pair[1], 99, MIN));
        }
        stores.add(bad("copy", 4, 0, 3, 0, 0));
        stores.add(bad("copy", 3, 0, 4, 0, 0));
        stores.add(bad("copy", -1, 0, 0, 0, 0));
        stores.add(bad("copy", 0, 0, -1, 0, 0));
        refuse("full", stores);
        List<Refused> refused = new ArrayList<>();
        for (int t = 0; t < 2; t++) {
            int[][] wrongOnes = {{-1, 0, 0}, {0, -1, 0}, {0, 0, -1}, {5, 0, 0}, {0, 5, 0}, {0, 0, 5}, {1, 0, 4}, {0, 1, 4}, {4, 0, 1},
                {0, 4, 1}, {3, 0, 2}, {0, 3, 2}, {MIN, 0, 0}, {0, MIN, 0}, {0, 0, MIN}, {MAX, 0, 0}, {0, MAX, 0}, {0, 0, MAX},
                {1, 1, MAX}, {MAX, MAX, MAX}, {MIN, MIN, MIN}, {MAX, 0, 1}, {0, MAX, 1}, {4, 4, MAX}, {-1, -1, 1}, {MAX, MAX, 2}};
            for (int[] w : wrongOnes) refused.add(of(INDEX, "copy", 0, w[0], t, w[1], w[2]));
        }
        refuse("few", refused);
    }

    /** Answers of NONE, and calls that only ask, are no refusals but change nothing, either. */
    static void asking() {
        for (String state : new String[] {"new", "full", "faulty", "few"}) {
            for (int part = 0; part < PICTURES; part++) {
                Counted c = build(state);
                for (String name : new String[] {"digest", "empty", "sale", "saint"}) c.ask(name);
                for (int k = 0; k < 2; k++) {
                    for (String name : new String[] {"fault", "match", "ask", "lie", "when", "together", "shelves", "guard"}) c.ask(name, k);
                    for (String name : new String[] {"virtue", "claimant", "gone", "behind", "fitting", "guess"}) c.ask(name, k, 0);
                }
                c.ask("weeks", 3, 40, 0);
                c.ask("weeks", 3, 2, 1);
                asked++;
                if (!picture(c, part).equals(twin(state, part))) {
                    wrong++;
                    System.out.println(state + ": asking changed something");
                }
            }
        }
    }

    public static void main(String[] args) {
        for (Method m : FoundVirtues.class.getDeclaredMethods()) if (java.lang.reflect.Modifier.isPublic(m.getModifiers())) FACE.put(m.getName(), m);
        bads();
        badRules();
        noSuchThing();
        nots();
        fulls();
        lostSheets();
        findings();
        copies();
        asking();
        System.out.println(asked + " looked at, " + wrong + " not as due");
        if (wrong != 0) System.exit(1);
    }
}
