import java.util.ArrayList;
import java.util.BitSet;
import java.util.List;
import java.util.Random;

// Random runs of calls on a desk and on a model that is written anew from the document, by trying
// everything out: each answer of the desk must be the model's.
public final class ModelTests {
    private static final int RUNS = 600, CALLS = 512;
    private static final String[] NAMES = {
        "read", "make", "worlds", "truth", "compare", "trust", "hold", "view", "entry", "drop", "weight",
        "together", "reasons", "reason", "harmonies", "harmony", "held", "cuts", "cutOf", "least", "giveUp",
        "news", "postulate", "rule", "ruled", "extensions", "extension", "concluded", "claim", "strikes",
        "claimed", "sets", "setOf", "parts", "far", "merged", "mergedWorld", "agreed", "take", "loose", "as",
        "tell", "show", "sheet", "lose", "put", "cell", "copy", "trace", "fault", "many"};
    private static final int[] PARAMETERS = {
        4, 3, 1, 2, 2, 2, 5, 2, 2, 2, 1,
        1, 2, 3, 1, 2, 2, 1, 2, 1, 1,
        2, 2, 5, 2, 1, 2, 2, 2, 2,
        2, 1, 2, 0, 2, 1, 2, 2, 3, 1, 2,
        1, 1, 3, 1, 3, 3, 5, 0, 0, 1};

    private final Random random;
    private final ReasonDesk desk = new ReasonDesk();
    private final Model model = new Model();
    private final List<String> told = new ArrayList<>();
    private int calls;
    private int wrong;
    static final int[] asked = new int[NAMES.length], refused = new int[NAMES.length];

    private ModelTests(long seed) {
        random = new Random(seed);
    }

    public static void main(String[] arguments) {
        int runs = arguments.length > 1 ? Integer.parseInt(arguments[1]) : RUNS;
        int wrong = 0;
        for (int run = 0; run < runs && wrong < 3; run++) {
            ModelTests one = new ModelTests(1000L + run);
            one.play(run);
            wrong += one.wrong;
        }
        for (int call = 0; call < NAMES.length; call++) {
            if (asked[call] - refused[call] < 20 && runs >= RUNS) {
                wrong++;
                System.out.println(NAMES[call] + " was hardly ever answered");
            }
        }
        System.out.println(wrong == 0 ? "the model agrees in " + runs + " runs" : wrong + " answers differ");
        if (wrong != 0) System.exit(1);
    }

    private void play(int run) {
        int style = run % 6;
        int letters = 2 + random.nextInt(style == 4 ? 7 : 3);
        if (random.nextInt(3) == 0) for (int i = 0; i < 6 + random.nextInt(8); i++) text(letters);
        else literals(letters + (style == 2 ? 2 : 0), style);
        int ready = 5 + random.nextInt(8);
        for (int i = 0; i < ready; i++) {
            int s = known();
            boolean always = random.nextInt(3) > 0;
            int from = always ? 0 : random.nextInt(3), to = always ? 99 : 50 + random.nextInt(50);
            if (style == 0 || style == 3 || style >= 4) call(6, s, random.nextInt(6), from, to, always ? 0 : random.nextInt(60));
            if (style == 1 && i < run / 6 % 3) call(6, s, random.nextInt(6), 0, 99, 0);
            if (style == 1 || style >= 4) call(23, random.nextInt(3), random.nextInt(2) == 0 ? 0 : known(), known(),
                random.nextInt(4) == 0 ? 1 : known(), random.nextInt(random.nextBoolean() ? 3 : 10));
            if (style == 2 || style == 4) call(28, known(), random.nextInt(6));
            if (style == 2 && i < 5) call(5, i, 1 + random.nextInt(run % 4 == 0 ? 2 : 9));
        }
        while (calls < CALLS && wrong == 0) {
            int pick = random.nextInt(20);
            if (pick == 0) text(letters);
            else if (pick == 1) call(7, random.nextInt(5) * 20, random.nextInt(5) * 25);
            else if (pick == 2) call(7, random.nextInt(50), 99);
            else if (pick < 14) ask(style);
            else any();
        }
    }

    // True, false, letters, their contraries, and some made of these.
    private void literals(int letters, int style) {
        String first = "10";
        for (int i = 0; i < 2 + letters; i++) {
            call(43, 0, 0, 1);
            call(45, 0, 0, i < 2 ? first.charAt(i) : 'a' + i - 2);
            call(0, 0, 0, 0, 1);
        }
        for (int i = 0; i < letters; i++) call(1, 0, 2 + i, 0);
        int more = random.nextInt(10) + (style == 2 ? 10 : 0);
        for (int i = 0; i < more; i++) call(1, style == 2 ? 1 : 1 + random.nextInt(4), known(), known());
    }

    // A sentence that there is; seldom one of the first two, which may be those that are always alike.
    private int known() {
        int size = Math.max(1, model.sentences.size());
        return size > 2 && random.nextInt(10) > 0 ? 2 + random.nextInt(size - 2) : random.nextInt(size);
    }

    // A question of the part that the run is about.
    private void ask(int style) {
        int[][] parts = {
            {8, 10, 11, 12, 13, 14, 15, 16, 17, 18, 19, 22}, {24, 25, 26, 27}, {29, 30, 31, 32}, {33, 34, 35, 36, 37},
            {16, 22, 24, 30, 35}, {38, 38, 39, 40, 41, 42, 43, 45, 46, 47, 48, 49}};
        int[] part = parts[style];
        make(part[random.nextInt(part.length)]);
    }

    private void any() {
        int call = random.nextInt(NAMES.length);
        // what changes much comes seldom
        if ((call == 20 || call == 21 || call == 9) && random.nextInt(3) > 0) return;
        make(call);
    }

    private void make(int call) {
        int[] given = new int[PARAMETERS[call]];
        int wild = random.nextInt(12);
        for (int i = 0; i < given.length; i++) given[i] = usual(call, i);
        if (wild == 0 && given.length > 0) given[random.nextInt(given.length)] = odd();
        if (wild == 1) for (int i = 0; i < given.length; i++) if (random.nextInt(3) == 0) given[i] = odd();
        call(call, given);
    }

    private int odd() {
        int[] odd = {-1, -9, -2, Integer.MIN_VALUE, Integer.MAX_VALUE, 12, 60, 61, 99, 100, 255, 256, 6, 4, 5, 3, 9, 10, 1 << 30};
        return random.nextInt(3) == 0 ? random.nextInt() : odd[random.nextInt(odd.length)];
    }

    private int sentence() {
        return random.nextInt(12) == 0 ? random.nextInt(61) : known();
    }

    private int usual(int call, int i) {
        String name = NAMES[call];
        switch (name) {
            case "read": return i == 0 ? random.nextInt(4) : i == 1 ? random.nextInt(3) : i == 2 ? random.nextInt(3) : random.nextInt(8);
            case "make": return i == 0 ? random.nextInt(5) : sentence();
            case "truth": return i == 0 ? sentence() : random.nextInt(256);
            case "trust": return i == 0 ? random.nextInt(6) : 1 + random.nextInt(9);
            case "hold": return i == 0 ? sentence() : i == 1 ? random.nextInt(6) : i == 2 ? random.nextInt(40) : i == 3 ? 40 + random.nextInt(60) : random.nextInt(60);
            case "view": return random.nextInt(100);
            case "entry": return i == 0 ? random.nextInt(12) : random.nextInt(9);
            case "drop": return i == 0 ? random.nextInt(12) : random.nextInt(2) == 0 ? -9 : random.nextInt(100);
            case "weight": case "together": return random.nextInt(1 << Math.min(12, model.entries.size() + 1));
            case "reasons": case "claim": case "news": return i == 0 ? sentence() : random.nextInt(name.equals("reasons") ? 2 : 6);
            case "reason": return i == 0 ? sentence() : i == 1 ? random.nextInt(2) : random.nextInt(3);
            case "harmonies": return random.nextInt(4);
            case "harmony": return i == 0 ? random.nextInt(2) : random.nextInt(4);
            case "held": return i == 0 ? sentence() : random.nextInt(5);
            case "cutOf": return i == 0 ? sentence() : random.nextInt(3);
            case "postulate": return i == 0 ? sentence() : random.nextInt(4);
            case "rule": return i == 0 ? random.nextInt(3) : i == 4 ? random.nextInt(10) : sentence();
            case "ruled": return i == 0 ? random.nextInt(10) : random.nextInt(9);
            case "extensions": return random.nextInt(3);
            case "extension": return random.nextInt(3);
            case "concluded": return i == 0 ? sentence() : random.nextInt(3);
            case "strikes": return random.nextInt(12);
            case "claimed": return i == 0 ? random.nextInt(12) : random.nextInt(8);
            case "sets": return random.nextInt(4);
            case "setOf": return i == 0 ? 1 + random.nextInt(2) : random.nextInt(4);
            case "far": return i == 0 ? random.nextInt(256) : random.nextInt(6);
            case "merged": return random.nextInt(3);
            case "mergedWorld": return i == 0 ? random.nextInt(3) : random.nextInt(40);
            case "agreed": return i == 0 ? sentence() : random.nextInt(3);
            case "take": return i == 0 ? random.nextInt(6) : i == 1 ? random.nextInt(2) : random.nextInt(10);
            case "loose": case "tell": case "show": return random.nextInt(6);
            case "as": return i == 0 ? random.nextInt(6) : random.nextInt(4);
            case "sheet": return i == 0 ? random.nextInt(4) : i == 1 ? random.nextInt(3) : random.nextInt(9);
            case "lose": return random.nextInt(4);
            case "put": return i == 0 ? random.nextInt(4) : i == 1 ? random.nextInt(8) : random.nextBoolean() ? random.nextInt() : "a1b0-()&|>"
                .charAt(random.nextInt(10));
            case "cell": return i == 0 ? random.nextInt(4) : i == 1 ? random.nextInt(8) : random.nextInt(3);
            case "copy": return i == 0 || i == 2 ? random.nextInt(4) : random.nextInt(6);
            case "many": return random.nextInt(9);
            default: return sentence();
        }
    }

    // A sheet with a text, mostly a good one, that is read.
    private void text(int letters) {
        StringBuilder text = new StringBuilder();
        grow(text, letters, 0);
        int spoiled = random.nextInt(6);
        if (spoiled == 0 && text.length() > 0) text.setCharAt(random.nextInt(text.length()), "a>|&-()10bx".charAt(random.nextInt(11)));
        if (spoiled == 1) text.setLength(random.nextInt(text.length() + 1));
        if (text.length() > 30 || calls + text.length() + 2 > CALLS) return;
        int k = random.nextInt(4), lane = random.nextInt(3), from = random.nextInt(2);
        call(43, k, lane, text.length() + from);
        for (int i = 0; i < text.length(); i++) call(45, k, i + from, text.charAt(i));
        call(0, k, lane, from, text.length());
    }

    private void grow(StringBuilder text, int letters, int depth) {
        int kind = random.nextInt(depth > 2 ? 4 : 10);
        if (kind < 3) text.append((char) ('a' + random.nextInt(letters)));
        else if (kind == 3) text.append(random.nextInt(4) == 0 ? random.nextBoolean() ? "1" : "0" : "a");
        else if (kind == 4) {
            text.append('-');
            grow(text, letters, depth + 1);
        } else if (kind == 5) {
            text.append('(');
            grow(text, letters, depth + 1);
            text.append(')');
        } else {
            grow(text, letters, depth + 1);
            text.append(kind == 6 ? '&' : kind == 7 ? '|' : '>');
            grow(text, letters, depth + 1);
        }
    }

    private void call(int call, int... p) {
        if (calls >= CALLS || wrong != 0) return;
        calls++;
        long due = answer(model, call, p), got = answer(desk, call, p);
        asked[call]++;
        if (due < 0 && due != Model.NONE && call != 41 && call != 46) refused[call]++;
        StringBuilder line = new StringBuilder(NAMES[call]).append('(');
        for (int i = 0; i < p.length; i++) line.append(i == 0 ? "" : ", ").append(p[i]);
        told.add(line.append(") ").append(got).toString());
        if (got == due) return;
        wrong++;
        for (String one : told) System.out.println("  " + one);
        System.out.println("answered " + got + ", the model says " + due);
    }

    private static long answer(ReasonDesk x, int call, int[] p) {
        switch (NAMES[call]) {
            case "read": return x.read(p[0], p[1], p[2], p[3]);
            case "make": return x.make(p[0], p[1], p[2]);
            case "worlds": return x.worlds(p[0]);
            case "truth": return x.truth(p[0], p[1]);
            case "compare": return x.compare(p[0], p[1]);
            case "trust": return x.trust(p[0], p[1]);
            case "hold": return x.hold(p[0], p[1], p[2], p[3], p[4]);
            case "view": return x.view(p[0], p[1]);
            case "entry": return x.entry(p[0], p[1]);
            case "drop": return x.drop(p[0], p[1]);
            case "weight": return x.weight(p[0]);
            case "together": return x.together(p[0]);
            case "reasons": return x.reasons(p[0], p[1]);
            case "reason": return x.reason(p[0], p[1], p[2]);
            case "harmonies": return x.harmonies(p[0]);
            case "harmony": return x.harmony(p[0], p[1]);
            case "held": return x.held(p[0], p[1]);
            case "cuts": return x.cuts(p[0]);
            case "cutOf": return x.cutOf(p[0], p[1]);
            case "least": return x.least(p[0]);
            case "giveUp": return x.giveUp(p[0]);
            case "news": return x.news(p[0], p[1]);
            case "postulate": return x.postulate(p[0], p[1]);
            case "rule": return x.rule(p[0], p[1], p[2], p[3], p[4]);
            case "ruled": return x.ruled(p[0], p[1]);
            case "extensions": return x.extensions(p[0]);
            case "extension": return x.extension(p[0], p[1]);
            case "concluded": return x.concluded(p[0], p[1]);
            case "claim": return x.claim(p[0], p[1]);
            case "strikes": return x.strikes(p[0], p[1]);
            case "claimed": return x.claimed(p[0], p[1]);
            case "sets": return x.sets(p[0]);
            case "setOf": return x.setOf(p[0], p[1]);
            case "parts": return x.parts();
            case "far": return x.far(p[0], p[1]);
            case "merged": return x.merged(p[0]);
            case "mergedWorld": return x.mergedWorld(p[0], p[1]);
            case "agreed": return x.agreed(p[0], p[1]);
            case "take": return x.take(p[0], p[1], p[2]);
            case "loose": return x.loose(p[0]);
            case "as": return x.as(p[0], p[1]);
            case "tell": return x.tell(p[0]);
            case "show": return x.show(p[0]);
            case "sheet": return x.sheet(p[0], p[1], p[2]);
            case "lose": return x.lose(p[0]);
            case "put": return x.put(p[0], p[1], p[2]);
            case "cell": return x.cell(p[0], p[1], p[2]);
            case "copy": return x.copy(p[0], p[1], p[2], p[3], p[4]);
            case "trace": return x.trace();
            case "fault": return x.fault();
            default: return x.many(p[0]);
        }
    }

    private static long answer(Model x, int call, int[] p) {
        switch (NAMES[call]) {
            case "read": return x.read(p[0], p[1], p[2], p[3]);
            case "make": return x.make(p[0], p[1], p[2]);
            case "worlds": return x.worlds(p[0]);
            case "truth": return x.truth(p[0], p[1]);
            case "compare": return x.compare(p[0], p[1]);
            case "trust": return x.trust(p[0], p[1]);
            case "hold": return x.hold(p[0], p[1], p[2], p[3], p[4]);
            case "view": return x.view(p[0], p[1]);
            case "entry": return x.entry(p[0], p[1]);
            case "drop": return x.drop(p[0], p[1]);
            case "weight": return x.weight(p[0]);
            case "together": return x.together(p[0]);
            case "reasons": return x.reasons(p[0], p[1]);
            case "reason": return x.reason(p[0], p[1], p[2]);
            case "harmonies": return x.harmonies(p[0]);
            case "harmony": return x.harmony(p[0], p[1]);
            case "held": return x.held(p[0], p[1]);
            case "cuts": return x.cuts(p[0]);
            case "cutOf": return x.cutOf(p[0], p[1]);
            case "least": return x.least(p[0]);
            case "giveUp": return x.giveUp(p[0]);
            case "news": return x.news(p[0], p[1]);
            case "postulate": return x.postulate(p[0], p[1]);
            case "rule": return x.rule(p[0], p[1], p[2], p[3], p[4]);
            case "ruled": return x.ruled(p[0], p[1]);
            case "extensions": return x.extensions(p[0]);
            case "extension": return x.extension(p[0], p[1]);
            case "concluded": return x.concluded(p[0], p[1]);
            case "claim": return x.claim(p[0], p[1]);
            case "strikes": return x.strikes(p[0], p[1]);
            case "claimed": return x.claimed(p[0], p[1]);
            case "sets": return x.sets(p[0]);
            case "setOf": return x.setOf(p[0], p[1]);
            case "parts": return x.parts();
            case "far": return x.far(p[0], p[1]);
            case "merged": return x.merged(p[0]);
            case "mergedWorld": return x.mergedWorld(p[0], p[1]);
            case "agreed": return x.agreed(p[0], p[1]);
            case "take": return x.take(p[0], p[1], p[2]);
            case "loose": return x.loose(p[0]);
            case "as": return x.as(p[0], p[1]);
            case "tell": return x.tell(p[0]);
            case "show": return x.show(p[0]);
            case "sheet": return x.sheet(p[0], p[1], p[2]);
            case "lose": return x.lose(p[0]);
            case "put": return x.put(p[0], p[1], p[2]);
            case "cell": return x.cell(p[0], p[1], p[2]);
            case "copy": return x.copy(p[0], p[1], p[2], p[3], p[4]);
            case "trace": return x.trace();
            case "fault": return x.fault();
            default: return x.many(p[0]);
        }
    }

    // The document, by trying everything out.
    private static final class Model {
        static final int UNKNOWN = -1, OUTSIDE = -2, STATE = -3, FULL = -4, NONE = -9;
        final List<BitSet> sentences = new ArrayList<>();
        // sentence, source, from, to, known, given up
        final List<int[]> entries = new ArrayList<>();
        // kind, if, then, unless, rank
        final List<int[]> rules = new ArrayList<>();
        // sentence, source
        final List<int[]> claims = new ArrayList<>();
        final int[] trust = {5, 5, 5, 5, 5, 5};
        // what a hold has: 0 nothing; 1 an entry, 2 a rule; its number
        final int[][] holds = new int[6][2];
        final long[][] sheets = new long[4][];
        final int[] lanes = new int[4];
        int t = 0, k = 99, trace = 0, fault = 0;

        static boolean in(int x, int from, int to) {
            return from <= x && x <= to;
        }

        static BitSet all() {
            BitSet set = new BitSet();
            set.set(0, 256);
            return set;
        }

        static BitSet not(BitSet of) {
            BitSet set = all();
            set.andNot(of);
            return set;
        }

        static BitSet and(BitSet a, BitSet b) {
            BitSet set = (BitSet) a.clone();
            set.and(b);
            return set;
        }

        static BitSet or(BitSet a, BitSet b) {
            BitSet set = (BitSet) a.clone();
            set.or(b);
            return set;
        }

        // Whether a sentence that is true in s follows of worlds.
        static boolean follows(BitSet s, BitSet of) {
            for (int w = 0; w < 256; w++) if (of.get(w) && !s.get(w)) return false;
            return true;
        }

        int faulted(int kind) {
            fault = kind;
            return -10 - kind;
        }

        boolean is(int s) {
            return in(s, 0, sentences.size() - 1);
        }

        // ---- 1

        int read(int s, int lane, int i, int n) {
            fault = 0;
            if (!in(s, 0, 3)) return UNKNOWN;
            if (!in(lane, 0, 2)) return OUTSIDE;
            if (sheets[s] != null && lanes[s] != lane) return faulted(2);
            if (sheets[s] == null) return faulted(1);
            if (n < 0) return faulted(4);
            if (i < 0 || (long) i + n > sheets[s].length) return faulted(3);
            if (sentences.size() == 60) return FULL;
            long[] text = java.util.Arrays.copyOfRange(sheets[s], i, i + n);
            Texts whole = new Texts(text);
            BitSet where = whole.text();
            if (where != null) {
                sentences.add(where);
                return sentences.size() - 1;
            }
            for (int place = 0; place < n; place++) {
                if (!goesOn(java.util.Arrays.copyOf(text, place + 1))) return -100 - place;
            }
            return -100 - n;
        }

        // Whether a text begins so: the shortest ones close all that is open, after a letter or at once.
        static boolean goesOn(long[] start) {
            for (int letter = 0; letter < 2; letter++) {
                for (int closing = 0; closing <= start.length; closing++) {
                    long[] text = java.util.Arrays.copyOf(start, start.length + letter + closing);
                    java.util.Arrays.fill(text, start.length, text.length, ')');
                    if (letter == 1) text[start.length] = 'a';
                    if (new Texts(text).text() != null) return true;
                }
            }
            return false;
        }

        int make(int how, int a, int b) {
            if (!in(how, 0, 4)) return OUTSIDE;
            if (!is(a) || how != 0 && !is(b)) return UNKNOWN;
            if (sentences.size() == 60) return FULL;
            BitSet where = new BitSet();
            for (int w = 0; w < 256; w++) {
                boolean x = sentences.get(a).get(w), y = how != 0 && sentences.get(b).get(w);
                boolean is = how == 0 ? !x : how == 1 ? x && y : how == 2 ? x || y : how == 3 ? !(x && !y) : x == y;
                where.set(w, is);
            }
            sentences.add(where);
            return sentences.size() - 1;
        }

        int worlds(int s) {
            return is(s) ? sentences.get(s).cardinality() : UNKNOWN;
        }

        int truth(int s, int w) {
            if (!is(s) || !in(w, 0, 255)) return UNKNOWN;
            return sentences.get(s).get(w) ? 1 : 0;
        }

        int compare(int a, int b) {
            if (!is(a) || !is(b)) return UNKNOWN;
            BitSet x = sentences.get(a), y = sentences.get(b);
            if (x.equals(y)) return 3;
            if (follows(y, x)) return 1;
            if (follows(x, y)) return 2;
            return x.intersects(y) ? 0 : 4;
        }

        int trust(int source, int v) {
            if (!in(source, 0, 5)) return UNKNOWN;
            if (!in(v, 1, 9)) return OUTSIDE;
            int was = trust[source];
            trust[source] = v;
            return was;
        }

        // ---- 2

        int hold(int s, int source, int from, int to, int known) {
            if (!is(s) || !in(source, 0, 5)) return UNKNOWN;
            if (!in(from, 0, 99) || !in(to, 0, 99) || from > to || !in(known, 0, 99)) return OUTSIDE;
            if (entries.size() == 12) return FULL;
            entries.add(new int[] {s, source, from, to, known, NONE});
            return entries.size() - 1;
        }

        int view(int t, int k) {
            if (!in(t, 0, 99) || !in(k, 0, 99)) return OUTSIDE;
            this.t = t;
            this.k = k;
            return Integer.bitCount(inView());
        }

        boolean sees(int e) {
            int[] x = entries.get(e);
            boolean gone = x[5] != NONE && x[5] <= k;
            return x[2] <= t && t <= x[3] && x[4] <= k && !gone;
        }

        int inView() {
            int set = 0;
            for (int e = 0; e < entries.size(); e++) if (sees(e)) set |= 1 << e;
            return set;
        }

        BitSet worldsOf(int set) {
            BitSet where = all();
            for (int e = 0; e < entries.size(); e++) if ((set >> e & 1) == 1) where.and(sentences.get(entries.get(e)[0]));
            return where;
        }

        int weigh(int set) {
            int sum = 0;
            for (int e = 0; e < entries.size(); e++) if ((set >> e & 1) == 1) sum += trust[entries.get(e)[1]];
            return sum;
        }

        // All parts of a set, in order as numbers.
        static List<Integer> parts(int of) {
            List<Integer> parts = new ArrayList<>();
            for (int set = 0; set <= of; set++) if ((set & ~of) == 0) parts.add(set);
            return parts;
        }

        // Those of some sets no lesser one of which is one, too.
        static List<Integer> least(List<Integer> sets) {
            List<Integer> least = new ArrayList<>();
            for (int a : sets) {
                boolean keep = true;
                for (int b : sets) if (b != a && (b & ~a) == 0) keep = false;
                if (keep) least.add(a);
                // the sets come in order, and all lesser ones are smaller numbers
            }
            return least;
        }

        int leastView = -1;
        List<BitSet> leastWorlds = new ArrayList<>();

        // Worlds of each part of what is in view, kept while it is the same.
        BitSet worldsIn(int view, int set) {
            if (view != leastView) {
                leastView = view;
                leastWorlds.clear();
                for (int part = 0; part <= view; part++) leastWorlds.add((part & ~view) == 0 ? worldsOf(part) : null);
            }
            return leastWorlds.get(set);
        }

        List<Integer> reasonsOf(BitSet s) {
            int view = inView();
            List<Integer> sets = new ArrayList<>();
            for (int set : parts(view)) {
                if (!follows(s, worldsIn(view, set))) continue;
                boolean lesser = false;
                for (int one : sets) if ((one & ~set) == 0) lesser = true;
                if (!lesser) sets.add(set);
            }
            return sets;
        }

        List<Integer> cutsOf(BitSet s) {
            int view = inView();
            List<Integer> sets = new ArrayList<>();
            for (int set : parts(view)) {
                if (follows(s, worldsIn(view, view & ~set))) continue;
                boolean lesser = false;
                for (int one : sets) if ((one & ~set) == 0) lesser = true;
                if (!lesser) sets.add(set);
            }
            return sets;
        }

        List<Integer> harmoniesOf() {
            int view = inView();
            List<Integer> sets = new ArrayList<>();
            for (int set : parts(view)) {
                if (worldsIn(view, set).isEmpty()) continue;
                boolean more = false;
                for (int e = 0; e < entries.size(); e++) {
                    int with = set | 1 << e;
                    if (with != set && (with & ~view) == 0 && !worldsIn(view, with).isEmpty()) more = true;
                }
                if (!more) sets.add(set);
            }
            return sets;
        }

        int greatest() {
            int most = 0;
            for (int set : harmoniesOf()) most = Math.max(most, weigh(set));
            return most;
        }

        List<Integer> bestOf() {
            int most = greatest();
            List<Integer> sets = new ArrayList<>();
            for (int set : harmoniesOf()) if (weigh(set) == most) sets.add(set);
            return sets;
        }

        int free() {
            int set = 0;
            List<Integer> all = harmoniesOf();
            for (int e = 0; e < entries.size(); e++) {
                boolean everywhere = sees(e);
                for (int one : all) everywhere &= (one >> e & 1) == 1;
                if (everywhere) set |= 1 << e;
            }
            return set;
        }

        static int holding(List<Integer> sets, int element) {
            int sum = 0;
            for (int set : sets) sum += set >> element & 1;
            return sum;
        }

        int entry(int e, int what) {
            if (!in(e, 0, entries.size() - 1)) return UNKNOWN;
            if (!in(what, 0, 8)) return OUTSIDE;
            if (what <= 5) return entries.get(e)[what];
            if (what == 6) return sees(e) ? 1 : 0;
            if (what == 7) return free() >> e & 1;
            return holding(harmoniesOf(), e);
        }

        int drop(int e, int at) {
            if (!in(e, 0, entries.size() - 1)) return UNKNOWN;
            if (at != NONE && !in(at, 0, 99)) return OUTSIDE;
            int was = entries.get(e)[5];
            entries.get(e)[5] = at;
            return was;
        }

        boolean areEntries(int set) {
            for (int bit = 0; bit < 32; bit++) if ((set >>> bit & 1) == 1 && bit >= entries.size()) return false;
            return true;
        }

        int weight(int set) {
            return areEntries(set) ? weigh(set) : OUTSIDE;
        }

        int together(int set) {
            return areEntries(set) ? worldsOf(set).cardinality() : OUTSIDE;
        }

        int reasons(int s, int way) {
            if (!is(s)) return UNKNOWN;
            if (!in(way, 0, 1)) return OUTSIDE;
            return reasonsOf(way == 0 ? sentences.get(s) : not(sentences.get(s))).size();
        }

        static int ith(List<Integer> of, int i) {
            return in(i, 0, of.size() - 1) ? of.get(i) : UNKNOWN;
        }

        int reason(int s, int way, int i) {
            if (!is(s)) return UNKNOWN;
            int found = ith(reasonsOf(way == 1 ? not(sentences.get(s)) : sentences.get(s)), i);
            return found == UNKNOWN ? UNKNOWN : in(way, 0, 1) ? found : OUTSIDE;
        }

        int harmonies(int what) {
            switch (what) {
                case 0: return harmoniesOf().size();
                case 1: return bestOf().size();
                case 2: return greatest();
                case 3: return free();
                default: return OUTSIDE;
            }
        }

        int harmony(int what, int i) {
            int found = ith(what == 1 ? bestOf() : harmoniesOf(), i);
            return found == UNKNOWN ? UNKNOWN : in(what, 0, 1) ? found : OUTSIDE;
        }

        int held(int s, int sense) {
            if (!is(s)) return UNKNOWN;
            if (!in(sense, 0, 4)) return OUTSIDE;
            BitSet where = sentences.get(s);
            if (sense == 0) return follows(where, worldsOf(inView())) ? 1 : 0;
            if (sense == 4) return follows(where, worldsOf(free())) ? 1 : 0;
            boolean each = true, some = false;
            for (int set : sense == 3 ? bestOf() : harmoniesOf()) {
                boolean of = follows(where, worldsOf(set));
                each &= of;
                some |= of;
            }
            return (sense == 2 ? some : each) ? 1 : 0;
        }

        int cuts(int s) {
            return is(s) ? cutsOf(sentences.get(s)).size() : UNKNOWN;
        }

        int cutOf(int s, int i) {
            return is(s) ? ith(cutsOf(sentences.get(s)), i) : UNKNOWN;
        }

        int leastCut(BitSet s) {
            int least = -1;
            for (int set : cutsOf(s)) {
                if (least < 0 || weigh(set) < weigh(least)
                    || weigh(set) == weigh(least) && Integer.bitCount(set) < Integer.bitCount(least)) least = set;
            }
            return least;
        }

        int least(int s) {
            if (!is(s)) return UNKNOWN;
            if (worlds(s) == 256) return STATE;
            return leastCut(sentences.get(s));
        }

        void goes(int set) {
            for (int e = 0; e < entries.size(); e++) if ((set >> e & 1) == 1) entries.get(e)[5] = k;
        }

        int giveUp(int s) {
            int set = least(s);
            if (set >= 0) goes(set);
            return set;
        }

        int news(int s, int source) {
            if (!is(s) || !in(source, 0, 5)) return UNKNOWN;
            if (worlds(s) == 0) return STATE;
            if (entries.size() == 12) return FULL;
            goes(leastCut(not(sentences.get(s))));
            return hold(s, source, t, 99, k);
        }

        int postulate(int s, int which) {
            if (!is(s)) return UNKNOWN;
            if (!in(which, 0, 3)) return OUTSIDE;
            if (worlds(s) == 256) return STATE;
            BitSet where = sentences.get(s);
            int view = inView(), cut = leastCut(where), rest = view & ~cut;
            if (which == 0) return follows(where, worldsOf(rest)) ? 0 : 1;
            if (which == 1) return follows(where, worldsOf(view)) || cut == 0 ? 1 : 0;
            if (which == 2) {
                for (int e = 0; e < entries.size(); e++)
                    if ((cut >> e & 1) == 1 && holding(reasonsOf(where), e) == 0) return 0;
                return 1;
            }
            // the strongest of all that followed is the one true in just the worlds of all in view
            return follows(worldsOf(view), and(worldsOf(rest), where)) ? 1 : 0;
        }

        // ---- 3

        int rule(int kind, int s, int then, int unless, int rank) {
            if (!in(kind, 0, 2)) return OUTSIDE;
            if (!is(s) || !is(then) || !is(unless)) return UNKNOWN;
            if (!in(rank, 0, 9)) return OUTSIDE;
            if (rules.size() == 10) return FULL;
            rules.add(new int[] {kind, s, then, unless, rank});
            return rules.size() - 1;
        }

        BitSet base() {
            return worldsOf(inView());
        }

        BitSet part(int r, int what) {
            return sentences.get(rules.get(r)[what]);
        }

        BitSet extended(int set) {
            BitSet where = base();
            for (int r = 0; r < rules.size(); r++) if ((set >> r & 1) == 1) where.and(part(r, 2));
            return where;
        }

        boolean goesOf(int r, BitSet e) {
            return follows(part(r, 1), e) && e.intersects(and(part(r, 2), not(part(r, 3))));
        }

        // Whether the rules of a set can follow those of another in some row.
        boolean inRow(int set, int ahead) {
            if (set == ahead) return true;
            for (int r = 0; r < rules.size(); r++) {
                boolean next = (set >> r & 1) == 1 && (ahead >> r & 1) == 0;
                if (next && follows(part(r, 1), extended(ahead)) && inRow(set, ahead | 1 << r)) return true;
            }
            return false;
        }

        String lastState = "";
        List<Integer> lastExtensions = new ArrayList<>();

        List<Integer> extensionsOf() {
            String state = inView() + "/" + rules.size();
            if (state.equals(lastState)) return lastExtensions;
            List<Integer> sets = new ArrayList<>();
            for (int set = 0; set < 1 << rules.size(); set++) {
                BitSet e = extended(set);
                boolean just = true;
                for (int r = 0; r < rules.size() && just; r++) just = goesOf(r, e) == ((set >> r & 1) == 1);
                if (just && inRow(set, 0)) sets.add(set);
            }
            lastState = state;
            lastExtensions = sets;
            return sets;
        }

        int compareWorth(int a, int b) {
            for (int rank = 0; rank < 10; rank++) {
                int ofA = 0, ofB = 0;
                for (int r = 0; r < rules.size(); r++) {
                    if (rules.get(r)[4] != rank) continue;
                    ofA += a >> r & 1;
                    ofB += b >> r & 1;
                }
                if (ofA != ofB) return ofA - ofB;
            }
            return 0;
        }

        List<Integer> bestExtensions() {
            List<Integer> sets = new ArrayList<>();
            for (int a : extensionsOf()) {
                boolean best = true;
                for (int b : extensionsOf()) best &= compareWorth(a, b) >= 0;
                if (best) sets.add(a);
            }
            return sets;
        }

        boolean bars(int a, int b) {
            BitSet where = and(base(), part(a, 2));
            return !where.isEmpty() && follows(part(b, 3), where);
        }

        int circle(int r) {
            int n = rules.size();
            int[][] steps = new int[n][n];
            for (int a = 0; a < n; a++) for (int b = 0; b < n; b++) steps[a][b] = bars(a, b) ? 1 : 1000;
            for (int m = 0; m < n; m++)
                for (int a = 0; a < n; a++)
                    for (int b = 0; b < n; b++) steps[a][b] = Math.min(steps[a][b], steps[a][m] + steps[m][b]);
            return steps[r][r] < 1000 ? steps[r][r] : NONE;
        }

        int ruled(int r, int what) {
            if (!in(r, 0, rules.size() - 1)) return UNKNOWN;
            if (in(what, 0, 4)) return rules.get(r)[what];
            if (what == 5) return goesOf(r, base()) ? 1 : 0;
            if (what == 6) return holding(extensionsOf(), r);
            if (what == 7) return circle(r);
            if (what != 8) return OUTSIDE;
            int set = 0;
            for (int b = 0; b < rules.size(); b++) if (bars(r, b)) set |= 1 << b;
            return set;
        }

        int extensions(int what) {
            if (what == 0) return extensionsOf().size();
            if (what == 1) return bestExtensions().size();
            return what == 2 ? base().cardinality() : OUTSIDE;
        }

        int extension(int what, int i) {
            int found = ith(what == 1 ? bestExtensions() : extensionsOf(), i);
            if (found == UNKNOWN) return UNKNOWN;
            if (!in(what, 0, 2)) return OUTSIDE;
            return what == 2 ? extended(found).cardinality() : found;
        }

        int concluded(int s, int sense) {
            if (!is(s)) return UNKNOWN;
            if (!in(sense, 0, 2)) return OUTSIDE;
            if (extensionsOf().isEmpty()) return NONE;
            boolean each = true, some = false;
            for (int set : sense == 2 ? bestExtensions() : extensionsOf()) {
                boolean of = follows(sentences.get(s), extended(set));
                each &= of;
                some |= of;
            }
            return (sense == 1 ? some : each) ? 1 : 0;
        }

        // ---- 4

        int claim(int s, int source) {
            if (!is(s) || !in(source, 0, 5)) return UNKNOWN;
            if (claims.size() == 12) return FULL;
            claims.add(new int[] {s, source});
            return claims.size() - 1;
        }

        boolean strike(int a, int b) {
            int[] x = claims.get(a), y = claims.get(b);
            return !sentences.get(x[0]).intersects(sentences.get(y[0])) && trust[x[1]] >= trust[y[1]];
        }

        int strikes(int a, int b) {
            int last = claims.size() - 1;
            if (!in(a, 0, last) || !in(b, 0, last)) return UNKNOWN;
            return strike(a, b) ? 1 : 0;
        }

        static boolean has(int set, int c) {
            return (set >> c & 1) == 1;
        }

        boolean struckBy(int set, int c) {
            for (int a = 0; a < claims.size(); a++) if (has(set, a) && strike(a, c)) return true;
            return false;
        }

        boolean defends(int set, int c) {
            for (int a = 0; a < claims.size(); a++) if (strike(a, c) && !struckBy(set, a)) return false;
            return true;
        }

        int[] rounds() {
            int[] rounds = new int[claims.size()];
            int ahead = 0;
            for (int round = 1; round <= 13; round++) {
                int come = 0;
                for (int c = 0; c < claims.size(); c++) {
                    if (has(ahead, c) || !defends(ahead, c)) continue;
                    come |= 1 << c;
                    rounds[c] = round;
                }
                ahead |= come;
            }
            return rounds;
        }

        int standing() {
            int set = 0;
            int[] rounds = rounds();
            for (int c = 0; c < rounds.length; c++) if (rounds[c] > 0) set |= 1 << c;
            return set;
        }

        String lastClaims = "";
        List<List<Integer>> lastSets = new ArrayList<>();

        List<Integer> setsOf(int what) {
            StringBuilder state = new StringBuilder().append(claims.size());
            for (int v : trust) state.append('/').append(v);
            if (!state.toString().equals(lastClaims)) {
                lastClaims = state.toString();
                lastSets = seek();
            }
            return lastSets.get(what);
        }

        List<List<Integer>> seek() {
            List<Integer> sound = new ArrayList<>(), preferred = new ArrayList<>(), stable = new ArrayList<>();
            for (int set = 0; set < 1 << claims.size(); set++) {
                boolean peace = true, defended = true, others = true;
                for (int c = 0; c < claims.size() && peace; c++) {
                    if (has(set, c)) peace = !struckBy(set, c);
                    if (has(set, c)) defended &= defends(set, c);
                    else others &= struckBy(set, c);
                }
                if (peace && defended) sound.add(set);
                if (peace && others) stable.add(set);
            }
            for (int a : sound) {
                boolean part = false;
                for (int b : sound) part |= a != b && (a & ~b) == 0;
                if (!part) preferred.add(a);
            }
            return List.of(sound, preferred, stable);
        }

        // The first one has said c last, and before that all of a set: whether he wins.
        boolean wins(int c, int said, int[][] known) {
            if (known[c][said] != 0) return known[c][said] == 1;
            boolean all = true;
            for (int other = 0; other < claims.size() && all; other++) {
                if (!strike(other, c)) continue;
                boolean some = false;
                for (int own = 0; own < claims.size() && !some; own++)
                    if (strike(own, other) && !has(said, own)) some = wins(own, said | 1 << own, known);
                all = some;
            }
            known[c][said] = all ? 1 : 2;
            return all;
        }

        int claimed(int c, int what) {
            if (!in(c, 0, claims.size() - 1)) return UNKNOWN;
            int[] rounds = rounds();
            switch (what) {
                case 0: case 1: return claims.get(c)[what];
                case 2: return rounds[c] > 0 ? rounds[c] : NONE;
                case 3: return rounds[c] > 0 ? 2 : struckBy(standing(), c) ? 0 : 1;
                case 4: return holding(setsOf(1), c);
                case 5: return holding(setsOf(2), c);
                case 6:
                    for (int round = 1; round <= 12; round++)
                        for (int a = 0; a < claims.size(); a++) if (rounds[a] == round && strike(a, c)) return a;
                    return NONE;
                case 7: return wins(c, 1 << c, new int[12][1 << 12]) ? 1 : 0;
                default: return OUTSIDE;
            }
        }

        int sets(int what) {
            if (!in(what, 0, 3)) return OUTSIDE;
            return what == 3 ? standing() : setsOf(what).size();
        }

        int setOf(int what, int i) {
            int found = ith(setsOf(what == 2 ? 2 : 1), i);
            return found == UNKNOWN ? UNKNOWN : in(what, 1, 2) ? found : OUTSIDE;
        }

        // ---- 5

        BitSet bookOf(int source) {
            int set = 0;
            for (int e = 0; e < entries.size(); e++) if (sees(e) && entries.get(e)[1] == source) set |= 1 << e;
            return set == 0 ? new BitSet() : worldsOf(set);
        }

        int parts() {
            int sum = 0;
            for (int source = 0; source < 6; source++) if (!bookOf(source).isEmpty()) sum++;
            return sum;
        }

        static int farOf(int w, BitSet from) {
            int least = 99;
            for (int v = 0; v < 256; v++) if (from.get(v)) least = Math.min(least, Integer.bitCount(v ^ w));
            return least;
        }

        int far(int w, int source) {
            if (!in(w, 0, 255) || !in(source, 0, 5)) return UNKNOWN;
            BitSet from = bookOf(source);
            return from.isEmpty() ? STATE : farOf(w, from);
        }

        BitSet mergedBy(int law) {
            List<BitSet> books = new ArrayList<>();
            List<Integer> trusts = new ArrayList<>();
            for (int source = 0; source < 6; source++) {
                if (bookOf(source).isEmpty()) continue;
                books.add(bookOf(source));
                trusts.add(trust[source]);
            }
            int[][] rows = new int[256][];
            int[] least = null;
            for (int w = 0; w < 256; w++) {
                int[] fars = new int[books.size()];
                int sum = 0, greatest = 0;
                for (int b = 0; b < fars.length; b++) {
                    fars[b] = -farOf(w, books.get(b));
                    sum += trusts.get(b) * -fars[b];
                    greatest = Math.max(greatest, -fars[b]);
                }
                java.util.Arrays.sort(fars);
                for (int b = 0; b < fars.length; b++) fars[b] = -fars[b];
                rows[w] = law == 0 ? new int[] {sum} : law == 1 ? new int[] {greatest} : fars;
                if (least == null || java.util.Arrays.compare(rows[w], least) < 0) least = rows[w];
            }
            BitSet where = new BitSet();
            for (int w = 0; w < 256; w++) where.set(w, java.util.Arrays.equals(rows[w], least));
            return where;
        }

        int merged(int law) {
            return in(law, 0, 2) ? mergedBy(law).cardinality() : OUTSIDE;
        }

        int mergedWorld(int law, int i) {
            if (!in(law, 0, 2)) return OUTSIDE;
            List<Integer> of = new ArrayList<>();
            BitSet where = mergedBy(law);
            for (int w = 0; w < 256; w++) if (where.get(w)) of.add(w);
            return ith(of, i);
        }

        int agreed(int s, int law) {
            if (!is(s)) return UNKNOWN;
            if (!in(law, 0, 2)) return OUTSIDE;
            return follows(sentences.get(s), mergedBy(law)) ? 1 : 0;
        }

        // ---- 6

        int take(int h, int what, int n) {
            if (!in(h, 0, 5)) return UNKNOWN;
            if (!in(what, 0, 1)) return OUTSIDE;
            if (!in(n, 0, (what == 0 ? entries : rules).size() - 1)) return UNKNOWN;
            holds[h][0] = what + 1;
            holds[h][1] = n;
            return 1;
        }

        int loose(int h) {
            if (!in(h, 0, 5)) return UNKNOWN;
            int had = holds[h][0];
            holds[h][0] = 0;
            return had == 0 ? 0 : 1;
        }

        int as(int h, int kind) {
            fault = 0;
            if (!in(h, 0, 5)) return UNKNOWN;
            if (!in(kind, 0, 3)) return OUTSIDE;
            if (holds[h][0] == 0) return faulted(1);
            boolean fits = holds[h][0] == 1 ? kind == 0 : kind > 0 && rules.get(holds[h][1])[0] >= kind - 1;
            return fits ? holds[h][1] : faulted(2);
        }

        void leaves(int... bodies) {
            for (int body : bodies) trace = 31 * trace + body;
        }

        int tell(int h) {
            fault = 0;
            if (!in(h, 0, 5)) return UNKNOWN;
            if (holds[h][0] == 0) return faulted(1);
            if (holds[h][0] == 1) {
                leaves(1);
                return entries.get(holds[h][1])[0];
            }
            int[] rule = rules.get(holds[h][1]);
            if (rule[0] == 0) leaves(2);
            else leaves(rule[0] + 2, 2);
            return rule[0] == 0 ? rule[2] : rule[0] == 1 ? rule[2] + rule[3] : -rule[2] - 1;
        }

        int show(int h) {
            fault = 0;
            if (!in(h, 0, 5)) return UNKNOWN;
            if (holds[h][0] == 0) return faulted(1);
            if (holds[h][0] == 1) return faulted(2);
            int kind = rules.get(holds[h][1])[0];
            if (kind == 2) leaves(7);
            if (kind >= 1) leaves(6);
            leaves(5);
            return holds[h][1] + (kind >= 1 ? 100 : 0) + (kind == 2 ? 1000 : 0);
        }

        int sheet(int s, int lane, int n) {
            fault = 0;
            if (!in(s, 0, 3)) return UNKNOWN;
            if (!in(lane, 0, 2) || n > 60) return OUTSIDE;
            if (n < 0) return faulted(4);
            sheets[s] = new long[n];
            lanes[s] = lane;
            return 1;
        }

        int lose(int s) {
            if (!in(s, 0, 3)) return UNKNOWN;
            boolean had = sheets[s] != null;
            sheets[s] = null;
            return had ? 1 : 0;
        }

        int put(int s, int i, int v) {
            fault = 0;
            if (!in(s, 0, 3)) return UNKNOWN;
            if (sheets[s] == null) return faulted(1);
            if (!in(i, 0, sheets[s].length - 1)) return faulted(3);
            int bits = 8 << lanes[s];
            long span = 1L << bits, cut = Math.floorMod((long) v, span);
            sheets[s][i] = cut >= span / 2 ? cut - span : cut;
            return 1;
        }

        long cell(int s, int i, int lane) {
            fault = 0;
            if (!in(s, 0, 3) || !in(lane, 0, 2)) return Long.MIN_VALUE;
            if (sheets[s] == null) fault = 1;
            else if (lanes[s] != lane) fault = 2;
            else if (!in(i, 0, sheets[s].length - 1)) fault = 3;
            return fault == 0 ? sheets[s][i] : Long.MIN_VALUE;
        }

        int copy(int a, int i, int b, int j, int n) {
            fault = 0;
            if (!in(a, 0, 3) || !in(b, 0, 3)) return UNKNOWN;
            if (sheets[a] == null || sheets[b] == null) return faulted(1);
            if (lanes[a] != lanes[b]) return faulted(2);
            boolean fits = i >= 0 && j >= 0 && n >= 0 && (long) i + n <= sheets[a].length && (long) j + n <= sheets[b].length;
            if (!fits) return faulted(3);
            long[] were = sheets[a].clone();
            for (int m = 0; m < n; m++) sheets[b][j + m] = were[i + m];
            return n;
        }

        int trace() {
            return trace;
        }

        int fault() {
            return fault;
        }

        int many(int what) {
            switch (what) {
                case 0: return sentences.size();
                case 1: return entries.size();
                case 2: return Integer.bitCount(inView());
                case 3: return rules.size();
                case 4: return claims.size();
                case 5: return t;
                case 6: return k;
                case 7: return base().cardinality();
                case 8: return inView();
                default: return OUTSIDE;
            }
        }
    }

    // The grammar, rule by rule; null where it does not fit.
    private static final class Texts {
        private final long[] codes;
        private int at;

        Texts(long[] codes) {
            this.codes = codes;
        }

        BitSet text() {
            BitSet where = ifs();
            return at == codes.length ? where : null;
        }

        private boolean next(char code) {
            if (at >= codes.length || codes[at] != code) return false;
            at++;
            return true;
        }

        private BitSet ifs() {
            BitSet left = ors();
            if (left == null || !next('>')) return left;
            BitSet right = ifs();
            return right == null ? null : Model.or(Model.not(left), right);
        }

        private BitSet ors() {
            BitSet left = ands();
            while (left != null && next('|')) {
                BitSet right = ands();
                left = right == null ? null : Model.or(left, right);
            }
            return left;
        }

        private BitSet ands() {
            BitSet left = nots();
            while (left != null && next('&')) {
                BitSet right = nots();
                left = right == null ? null : Model.and(left, right);
            }
            return left;
        }

        private BitSet nots() {
            if (next('-')) {
                BitSet of = nots();
                return of == null ? null : Model.not(of);
            }
            if (next('(')) {
                BitSet of = ifs();
                return of != null && next(')') ? of : null;
            }
            if (next('1')) return Model.all();
            if (next('0')) return new BitSet();
            for (int letter = 0; letter < 8; letter++) if (next((char) ('a' + letter))) return ofLetter(letter);
            return null;
        }

        private static BitSet ofLetter(int letter) {
            BitSet where = new BitSet();
            for (int w = 0; w < 256; w++) where.set(w, (w >> letter & 1) == 1);
            return where;
        }
    }
}
