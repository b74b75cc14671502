import java.lang.reflect.Method;
import java.nio.file.Files;
import java.nio.file.Path;
import java.util.ArrayList;
import java.util.Arrays;
import java.util.HashMap;
import java.util.List;
import java.util.Map;
import java.util.Set;
import java.util.function.Supplier;
import java.util.regex.Matcher;
import java.util.regex.Pattern;

// The document, sentence by sentence: each that names an edge (too small, too large, empty, full, a wrap-around, a
// refused call) has a test of its own here, under its own words. At the end these are looked up in ../shared/DOC.md:
// each must stand there, and each refusal and fault that a promise names must be under one of them.
public final class EdgeTests {
    private static final int UNKNOWN = -1, OUTSIDE = -2, STATE = -3, FULL = -4, NONE = -9;
    private static final int NULL = -11, CAST = -12, INDEX = -13, SIZE = -14;
    private static final long LOST = Long.MIN_VALUE;
    private static final int AS_IT_WAS = -1;
    private static final int LEAST = Integer.MIN_VALUE, GREATEST = Integer.MAX_VALUE;
    // The calls that name FAULTS; all others leave fault() as it is.
    private static final Set<String> FAULTY = Set.of("read", "as", "tell", "show", "sheet", "put", "cell", "copy");
    private static final String WORDS = "UNKNOWN|OUTSIDE|STATE|FULL|NONE|LOST|CAST|NULL|SIZE|INDEX";
    private static final Map<String, Method> CALLS = new HashMap<>();
    private static final List<String> edges = new ArrayList<>();
    private static final List<Integer> promises = new ArrayList<>();
    private static int checks;
    private static int wrong;

    public static void main(String[] arguments) throws Exception {
        for (Method one : ReasonDesk.class.getMethods()) CALLS.put(one.getName(), one);
        terms();
        newObject();
        sentences();
        book();
        following();
        givingUp();
        rules();
        claims();
        merging();
        holds();
        sheets();
        many();
        lastCall();
        edge(0, "");
        lookUp(Path.of("../shared/DOC.md"));
        System.out.println(wrong == 0 ? (edges.size() - 1) + " edges hold" : wrong + " answers are not as promised");
        if (wrong != 0) System.exit(1);
    }

    // ---- how it is asked

    // A desk whose calls are counted: after 512 of them its answers are free.
    private static final class Desk {
        private final ReasonDesk desk = new ReasonDesk();
        private int calls;

        long ask(String name, int... given) {
            calls++;
            if (calls > 512) fail("more than 512 calls on one desk");
            Object[] values = new Object[given.length];
            for (int i = 0; i < given.length; i++) values[i] = given[i];
            try {
                return ((Number) CALLS.get(name).invoke(desk, values)).longValue();
            } catch (ReflectiveOperationException e) {
                fail(line(name, given) + " threw " + e.getCause());
                return 0L;
            }
        }

        void due(long want, String name, int... given) {
            checks++;
            long got = ask(name, given);
            if (got != want) fail(line(name, given) + " answered " + got + ", due is " + want);
        }

        // Reads texts by sheet 3; the number of the last one.
        int say(String... texts) {
            long number = UNKNOWN;
            for (String text : texts) {
                write(3, 0, text);
                number = ask("read", 3, 0, 0, text.length());
                if (number < 0) fail("could not read " + text);
            }
            return (int) number;
        }

        void write(int k, int lane, String text) {
            ask("sheet", k, lane, text.length());
            for (int i = 0; i < text.length(); i++) ask("put", k, i, text.charAt(i));
        }

        // Entries in view at all times.
        Desk holds(int... ofAndBy) {
            for (int i = 0; i + 1 < ofAndBy.length; i += 2) ask("hold", ofAndBy[i], ofAndBy[i + 1], 0, 99, 0);
            return this;
        }
    }

    private static Desk with(String... texts) {
        Desk d = new Desk();
        d.say(texts);
        return d;
    }

    private static String line(String name, int[] given) {
        return name + Arrays.toString(given).replace('[', '(').replace(']', ')');
    }

    private static void fail(String what) {
        wrong++;
        String edge = edges.isEmpty() ? "" : edges.get(edges.size() - 1);
        int promise = promises.isEmpty() ? 0 : promises.get(promises.size() - 1);
        System.out.println("promise " + promise + ", '" + edge + "': " + what);
    }

    // From here on is tested what these words of a promise say (0: of the terms).
    private static void edge(int promise, String words) {
        if (!edges.isEmpty() && checks == 0) fail("nothing is tested");
        edges.add(words);
        promises.add(promise);
        checks = 0;
    }

    // A call on one of two desks that are alike: it answers so, and they are alike still.
    private static void refused(Supplier<Desk> maker, long want, int fault, String name, int... given) {
        for (int part = 0; part < 2; part++) {
            Desk asked = maker.get(), other = maker.get();
            long was = other.ask("fault");
            asked.due(want, name, given);
            asked.due(fault == AS_IT_WAS ? was : fault, "fault");
            List<Long> is = state(asked, part), due = state(other, part);
            for (int i = 0; i < is.size() || i < due.size(); i++) {
                if (i < is.size() && i < due.size() && is.get(i).equals(due.get(i))) continue;
                fail(line(name, given) + " changed something: question " + i + " of part " + part);
                return;
            }
        }
    }

    private static void refused(Supplier<Desk> maker, long want, String name, int... given) {
        int fault = !FAULTY.contains(name) ? AS_IT_WAS : want <= NULL && want >= SIZE ? (int) (-10 - want) : 0;
        refused(maker, want, fault, name, given);
    }

    private static void refused(long want, String name, int... given) {
        refused(EdgeTests::rich, want, name, given);
    }

    // What a desk answers about itself, in two parts, each short enough for a desk's 512 calls.
    private static List<Long> state(Desk d, int part) {
        List<Long> all = new ArrayList<>();
        all.add(d.ask("trace"));
        long[] size = new long[9];
        for (int what = 0; what < 9; what++) {
            size[what] = d.ask("many", what);
            all.add(size[what]);
        }
        if (part == 0) {
            for (int s = 0; s < size[0]; s++) all.add(d.ask("worlds", s));
            for (int s = 0; s < size[0] && s < 12; s++) for (int w = 1; w < 8; w += 2) all.add(d.ask("truth", s, w));
            for (int e = 0; e < size[1]; e++) for (int what = 0; what < 9; what++) all.add(d.ask("entry", e, what));
            for (int k = 0; k < 4; k++) for (int lane = 0; lane < 3; lane++) all.add(d.ask("cell", k, 0, lane));
            for (int k = 0; k < 3; k++) for (int i = 1; i < 7; i++) all.add(d.ask("cell", k, i, k));
            return all;
        }
        for (int r = 0; r < size[3]; r++) for (int what = 0; what < 9; what++) all.add(d.ask("ruled", r, what));
        for (int c = 0; c < size[4]; c++) for (int what = 0; what < 8; what++) all.add(d.ask("claimed", c, what));
        for (int k = 0; k < 6; k++) for (int kind = 0; kind < 2; kind++) all.add(d.ask("as", k, kind));
        for (int what = 0; what < 4; what++) {
            all.add(d.ask("harmonies", what));
            all.add(d.ask("sets", what));
            all.add(d.ask("extensions", what));
            all.add(d.ask("merged", what));
        }
        for (int source = 0; source < 6; source++) all.add(d.ask("trust", source, 5));
        return all;
    }

    // A desk with some of everything. In view are entries 0 and 1, of a and b; there are 64 worlds of them.
    // Sheets 0, 1, 2 are of lanes 0, 1, 2 and have 5, 3, 2 cells; sheet 3 has nothing, as holds 4 and 5.
    private static Desk rich() {
        Desk d = with("a", "b", "-a", "a&b", "1", "0", "c");
        d.ask("lose", 3);
        d.ask("trust", 2, 3);
        d.ask("hold", 0, 0, 0, 99, 0);
        d.ask("hold", 1, 1, 5, 20, 10);
        d.ask("hold", 2, 2, 0, 99, 60);
        d.ask("hold", 6, 0, 0, 99, 0);
        d.ask("drop", 3, 40);
        d.ask("view", 10, 50);
        d.ask("rule", 0, 4, 6, 2, 1);
        d.ask("rule", 1, 0, 3, 6, 2);
        d.ask("rule", 2, 4, 1, 5, 0);
        int[] claims = {0, 0, 2, 1, 5, 2, 1, 3};
        for (int i = 0; i < claims.length; i += 2) d.ask("claim", claims[i], claims[i + 1]);
        d.ask("take", 0, 0, 1);
        for (int r = 0; r < 3; r++) d.ask("take", 1 + r, 1, r);
        d.write(0, 0, "a>b12");
        d.write(1, 1, "-b)");
        d.write(2, 2, "cd");
        d.ask("tell", 0);
        d.ask("put", 0, -1, 0);
        return d;
    }

    // A desk with all that there may be of sentences, entries, rules, claims. Sheet 3 has the text a, sheet 0 none.
    private static Desk full() {
        Desk d = with("b", "1", "0", "a");
        for (int s = 4; s < 60; s++) d.ask("make", 0, s - 4, 0);
        for (int e = 0; e < 12; e++) d.ask("hold", e % 2, e % 6, 0, 99, 0);
        for (int r = 0; r < 10; r++) d.ask("rule", r % 3, 1, r % 2 * 3, 2, r);
        for (int c = 0; c < 12; c++) d.ask("claim", c, c % 6);
        d.write(0, 0, "))");
        d.ask("put", 0, -1, 0);
        return d;
    }

    // ---- the terms

    private static void terms() {
        edge(0, "LETTERS 0 .. 7 are told a .. h. WORLDS 0 .. 255: LETTER k is true in those with bit k.");
        for (int k = 0; k < 8; k++) {
            Desk d = with("" + (char) ('a' + k));
            for (int w = 0; w < 256; w++) d.due(w >> k & 1, "truth", 0, w);
        }
        edge(0, "FOLLOWS of a set of WORLDS: it is true in all of these (of none at all: each does).");
        Desk none = with("a", "-a", "0", "h").holds(0, 0, 1, 0);
        none.due(0, "many", 7);
        for (int s = 0; s < 4; s++) none.due(1, "held", s, 0);
        for (int s = 0; s < 4; s++) none.due(1, "concluded", s, 0);
        Desk all = with("1", "a|-a", "a|b|c|d|e|f|g|h");
        int[] follows = {1, 1, 0};
        for (int s = 0; s < 3; s++) all.due(follows[s], "held", s, 0);
        codes();
        firstFaults();
        edge(0, "SOURCES 0 .. 5, each with a TRUST (1 .. 9; 5 at first).");
        Desk d = new Desk();
        for (int source = 0; source < 6; source++) {
            d.due(5, "trust", source, 1);
            d.due(1, "trust", source, 9);
            d.due(9, "trust", source, 9);
        }
    }

    // A text of an int row, read; what is due where it is one is the sentence's number.
    private static void reading(Desk d, boolean good, int fault, int... codes) {
        d.ask("sheet", 2, 2, codes.length);
        for (int i = 0; i < codes.length; i++) d.ask("put", 2, i, codes[i]);
        d.due(good ? d.ask("many", 0) : -100 - fault, "read", 2, 2, 0, codes.length);
    }

    private static void codes() {
        edge(0, "N is -N (not), (I), a letter a .. h (97 .. 104), 1 (true), 0 (false)");
        for (int code = -300; code <= 400; code++) {
            boolean operand = code >= 97 && code <= 104 || code == 48 || code == 49;
            Desk d = new Desk();
            reading(d, operand, code == 45 || code == 40 ? 1 : 0, code);
            reading(d, operand, code == 45 || code == 40 ? 2 : 1, 45, code);
            reading(d, false, operand || code == 45 || code == 40 ? 2 : 1, 40, code);
        }
        edge(0, "Codes: > 62, | 124, & 38, - 45, ( 40, ) 41, 1 49, 0 48.");
        for (int code = -300; code <= 400; code++) {
            boolean sign = code == 62 || code == 124 || code == 38;
            Desk d = new Desk();
            reading(d, false, sign ? 2 : 1, 97, code);
            reading(d, code == 41, sign ? 3 : 2, 40, 104, code);
            reading(d, false, sign ? 4 : 3, 40, 49, 41, code);
            if (sign) reading(d, true, 0, 97, code, 48);
        }
    }

    private static void firstFaults() {
        edge(0, "The FIRST FAULT of a TEXT that is none: the place (from 0 on) of the first code with which no TEXT goes on as "
            + "those up to it;");
        String[] faults = {")", ">a", "|", "&a", "2", "i", "()", "a)", "aa", "a-", "a(b)", "(a))", "a>>b", "a|>b", "a&|b",
            "-)", "-&a", "(|a)", "((a)))", "a>(b&c))>d", "1 0", "a&(b|)c"};
        int[] places = {0, 0, 0, 0, 0, 0, 1, 1, 1, 1, 1, 3, 2, 2, 2,
            1, 1, 1, 5, 7, 1, 5};
        for (int i = 0; i < faults.length; i++) {
            Desk d = new Desk();
            d.write(0, 0, faults[i]);
            d.due(-100 - places[i], "read", 0, 0, 0, faults[i].length());
            d.due(0, "many", 0);
        }
        edge(0, "how many codes there are, if it just ends too soon");
        for (String text : new String[] {"", "-", "(", "a>", "a|", "a&", "(a", "((a)", "--", "-(", "(a>b)&", "a>b>"}) {
            Desk d = new Desk();
            d.write(0, 0, text);
            d.due(-100 - text.length(), "read", 0, 0, 0, text.length());
            d.due(0, "fault");
        }
        for (char code : new char[] {'-', '('}) {
            Desk d = new Desk();
            d.write(0, 0, ("" + code).repeat(60));
            d.due(-160, "read", 0, 0, 0, 60);
            d.due(-101, "read", 0, 0, 59, 1);
        }
        edge(0, "TEXTS are rows of codes: I is D, or D > I (if .. then: false where D is true and I is not);");
        Desk d = with("a", "-".repeat(59) + "a", "-" + "a&".repeat(29) + "a", "(".repeat(29) + "-a" + ")".repeat(29));
        for (int s = 1; s < 4; s++) d.due(0, "truth", s, 255);
        d.due(4, "compare", 0, 1);
        d.due(3, "compare", 1, 3);
        Desk ifs = with("a" + ">a".repeat(28) + ">0", "a>b>0", "(a>b)>0", "-a");
        ifs.due(3, "compare", 0, 3);
        int[][] rows = {{1, 1, 1, 0}, {0, 1, 0, 1}};
        for (int w = 0; w < 4; w++) {
            ifs.due(rows[0][w], "truth", 1, w);
            ifs.due(w == 1 ? 1 : 0, "truth", 2, w);
        }
        edge(0, "D is C, or C | C | .. (or); C is N, or N & N & .. (and);");
        Desk first = with("a|b>c", "(a|b)>c", "a>b|c", "a>(b|c)", "a&b>c", "(a&b)>c", "a>b&c>d", "a>((b&c)>d)", "a|b&c>d|e",
            "(a|(b&c))>(d|e)", "-a>b", "(-a)>b", "a|b|c>d", "(a|b|c)>d");
        for (int s = 0; s < 14; s += 2) first.due(3, "compare", s, s + 1);
        Desk ors = with("a|b&c|d", "a|(b&c)|d", "-a&b|c", "((-a)&b)|c", "a&b&c&d&e&f&g&h", "a|b|c|d|e|f|g|h", "a&-b|-a&b", "-a|b&-b");
        for (int s = 0; s < 4; s += 2) ors.due(3, "compare", s, s + 1);
        ors.due(1, "worlds", 4);
        ors.due(255, "worlds", 5);
        int[] either = {0, 1, 1, 0}, not = {1, 0, 1, 0};
        for (int w = 0; w < 4; w++) {
            ors.due(either[w], "truth", 6, w);
            ors.due(not[w], "truth", 7, w);
        }
        brackets();
    }

    // Waiting signs pile up: as many as 60 codes can hold.
    private static void brackets() {
        Desk d = with("(-".repeat(19) + "a" + ")".repeat(19), "(a>".repeat(14) + "b" + ")".repeat(14),
            "a|(b&(".repeat(7) + "b&a" + "))".repeat(7), "a&-(b|".repeat(7) + "0" + ")".repeat(7));
        int[][] due = {{1, 0, 1, 0}, {1, 0, 1, 1}, {0, 1, 0, 1}, {0, 1, 0, 0}};
        for (int s = 0; s < due.length; s++) for (int w = 0; w < 4; w++) d.due(due[s][w], "truth", s, w);
    }

    // ---- how refusals are asked: rows of numbers, "L" the least int, "G" the greatest

    private static int[] numbers(String row) {
        String[] parts = row.trim().split(" ");
        int[] values = new int[parts.length];
        for (int i = 0; i < parts.length; i++)
            values[i] = parts[i].equals("L") ? LEAST : parts[i].equals("G") ? GREATEST : Integer.parseInt(parts[i]);
        return values;
    }

    private static void each(Supplier<Desk> maker, long want, String name, String... rows) {
        for (String row : rows) refused(maker, want, name, numbers(row));
    }

    private static void each(long want, String name, String... rows) {
        each(EdgeTests::rich, want, name, rows);
    }

    // A fault of a call: where a long is answered it answers LOST.
    private static void faults(int fault, String name, String... rows) {
        for (String row : rows)
            refused(EdgeTests::rich, name.equals("cell") ? LOST : -10 - fault, fault, name, numbers(row));
    }

    // What a call answers for 0, 1, .. as its last number.
    private static void row(Desk d, String name, int[] due, int... ahead) {
        int[] given = Arrays.copyOf(ahead, ahead.length + 1);
        for (int i = 0; i < due.length; i++) {
            given[ahead.length] = i;
            d.due(due[i], name, given);
        }
    }

    private static void newObject() {
        edge(1, "No SENTENCES, ENTRIES, RULES, CLAIMS, SHEETS; HOLDS have nothing.");
        Desk d = new Desk();
        row(d, "many", new int[] {0, 0, 0, 0, 0, 0, 99, 256, 0});
        for (String name : new String[] {"entry", "ruled", "claimed", "truth", "compare"}) d.due(UNKNOWN, name, 0, 0);
        for (int k = 0; k < 4; k++) {
            for (int lane = 0; lane < 3; lane++) {
                d.due(NULL, "read", k, lane, 0, 0);
                d.due(LOST, "cell", k, 0, lane);
                d.due(1, "fault");
            }
            d.due(NULL, "put", k, 0, 0);
            d.due(0, "lose", k);
        }
        for (int k = 0; k < 6; k++) {
            d.due(NULL, "as", k, 0);
            d.due(NULL, "tell", k);
            d.due(NULL, "show", k);
            d.due(0, "loose", k);
        }
        Desk other = rich();
        new Desk().due(0, "many", 0);
        other.due(7, "many", 0);
        other.due(3, "fault");
    }

    // ---- 1 sentences

    private static void sentences() {
        edge(0, "SENTENCES, 60 ever, numbered as they come; each is true in some WORLDS (its own).");
        Desk d = new Desk();
        for (int s = 0; s < 60; s++) {
            d.due(UNKNOWN, "worlds", s);
            if (s % 3 == 0) {
                d.write(0, 0, "h");
                d.due(s, "read", 0, 0, 0, 1);
            } else {
                d.due(s, "make", s % 3 - 1, s - 1, s - 1);
                d.due(OUTSIDE, "make", 5, 0, 0);
            }
        }
        for (int s = 0; s < 60; s++) d.due(s % 3 == 0 ? 0 : 1, "truth", s, 127);
        d.due(FULL, "make", 0, 0, 0);
        d.due(FULL, "read", 0, 0, 0, 1);
        d.due(UNKNOWN, "worlds", 60);
        readings();
        makings();
        asking();
        orders();
    }

    private static void orders() {
        edge(0, "REFUSALS: UNKNOWN (there is no such SENTENCE, SOURCE, ENTRY, RULE, CLAIM, HOLD, SHEET, place), "
            + "OUTSIDE (another number is not as told), STATE (as told), FULL;");
        Desk d = rich();
        int[] refusals = {-1, -2, -3, -4};
        d.due(refusals[0], "worlds", 7);
        d.due(refusals[0], "trust", 6, 1);
        d.due(refusals[0], "entry", 4, 0);
        d.due(refusals[0], "ruled", 3, 0);
        d.due(refusals[0], "claimed", 4, 0);
        d.due(refusals[0], "loose", 6);
        d.due(refusals[0], "lose", 4);
        d.due(refusals[0], "harmony", 0, 1);
        d.due(refusals[1], "many", 9);
        d.due(refusals[2], "least", 4);
        full().due(refusals[3], "claim", 0, 0);
        edge(0, "of several the first in the order in which a call's line tells them.");
        each(UNKNOWN, "read", "4 3 -1 -1");
        each(OUTSIDE, "make", "5 -1 -1");
        each(UNKNOWN, "hold", "7 6 9 8 100");
        each(EdgeTests::full, OUTSIDE, "hold", "0 0 9 8 100");
        each(EdgeTests::full, STATE, "news", "2 0");
        each(OUTSIDE, "rule", "3 7 7 7 10");
        each(UNKNOWN, "rule", "2 7 0 0 10");
        each(OUTSIDE, "mergedWorld", "3 -1");
        each(UNKNOWN, "agreed", "7 3");
        each(UNKNOWN, "take", "6 2 9");
        each(OUTSIDE, "take", "0 2 9");
        edge(0, "They change nothing (but fault(), of a call that names FAULTS).");
        refused(EdgeTests::rich, UNKNOWN, 0, "put", 4, 0, 0);
        refused(EdgeTests::rich, OUTSIDE, 0, "sheet", 0, 3, 1);
        refused(EdgeTests::rich, UNKNOWN, 3, "claim", 7, 0);
        refused(EdgeTests::rich, STATE, 3, "giveUp", 4);
        refused(EdgeTests::full, FULL, 3, "rule", 0, 0, 0, 0, 0);
        edge(0, "FAULTS are the machine's: 1 NULL (there is nothing), 2 CAST (it is of another LANE, kind), 3 INDEX, "
            + "4 SIZE (a length below 0).");
        faults(1, "put", "3 0 0");
        faults(2, "as", "0 1");
        faults(2, "cell", "0 0 1");
        faults(3, "put", "0 5 0");
        faults(4, "sheet", "0 0 -1");
        edge(0, "Of a call the first that is come to, in the order told; it answers -10 less it (LOST, where a long is "
            + "answered, as for refusals) and changes nothing; fault() tells it.");
        refused(EdgeTests::rich, -12, 2, "read", 0, 1, -1, -1);
        refused(EdgeTests::rich, -11, 1, "read", 3, 0, -1, -1);
        refused(EdgeTests::rich, -14, 4, "read", 0, 0, -1, -1);
        refused(EdgeTests::rich, -11, 1, "put", 3, -1, 0);
        refused(EdgeTests::rich, LOST, 1, "cell", 3, -1, 0);
        refused(EdgeTests::rich, LOST, 2, "cell", 0, -1, 1);
        refused(EdgeTests::rich, LOST, 0, "cell", 4, -1, 1);
        refused(EdgeTests::rich, -12, 2, "copy", 0, -1, 1, -1, -1);
        edge(0, "NONE is -9.");
        d.due(-9, "entry", 0, 5);
        d.due(-9, "ruled", 0, 7);
        d.due(-9, "drop", 0, 9);
        d.due(9, "drop", 0, -9);
        edge(0, "Sets of ENTRIES, RULES, CLAIMS are told as bits (bit k for number k).");
        Desk all = with("a").holds(0, 0, 0, 0, 0, 0, 0, 0, 0, 0, 0, 0, 0, 0, 0, 0, 0, 0, 0, 0, 0, 0, 0, 0);
        all.say("0", "1");
        for (int r = 0; r < 10; r++) all.ask("rule", 0, 2, 0, 1, 0);
        for (int c = 0; c < 12; c++) all.ask("claim", 0, 0);
        all.due(4095, "many", 8);
        all.due(1 << 11, "reason", 0, 0, 11);
        all.due(1023, "extension", 0, 0);
        all.due(4095, "setOf", 1, 0);
    }

    private static void readings() {
        edge(2, "A SENTENCE from a TEXT, n cells of a SHEET from i on, taken as a row of a LANE: its number.");
        for (int lane = 0; lane < 3; lane++) {
            Desk d = new Desk();
            d.write(lane, lane, "a" + "&a".repeat(29) + "b");
            d.due(-159, "read", lane, lane, 0, 60);
            d.due(0, "read", lane, lane, 0, 59);
            d.due(1, "read", lane, lane, 59, 1);
            d.due(2, "read", lane, lane, 58, 1);
            d.due(-101, "read", lane, lane, 58, 2);
            d.due(0, "compare", 0, 1);
            d.due(3, "compare", 0, 2);
        }
        edge(2, "UNKNOWN;");
        each(UNKNOWN, "read", "-1 0 0 1", "4 0 0 1", "4 3 -1 -1", "L -1 L L", "G 3 G G");
        edge(2, "OUTSIDE: lane;");
        each(OUTSIDE, "read", "0 -1 0 1", "0 3 0 1", "3 3 -1 -1", "0 3 -1 -1", "0 L 0 1", "0 G 0 1");
        edge(2, "CAST (nothing is no CAST);");
        faults(2, "read", "0 1 0 1", "0 2 -1 -1", "1 0 0 9", "1 2 L L", "2 0 0 1", "2 1 -1 -1");
        faults(1, "read", "3 0 0 0", "3 1 0 0", "3 2 0 0");
        edge(2, "NULL;");
        faults(1, "read", "3 0 0 1", "3 0 -1 -1", "3 2 G L");
        edge(2, "SIZE: n below 0;");
        faults(4, "read", "0 0 0 -1", "0 0 -1 -1", "0 0 9 L", "1 1 0 -1", "2 2 L L");
        edge(2, "INDEX;");
        faults(3, "read", "0 0 -1 0", "0 0 -1 1", "0 0 0 6", "0 0 5 1", "0 0 6 0", "0 0 4 2", "0 0 L 1", "0 0 G 1", "0 0 1 G",
            "0 0 G G", "0 0 L G", "1 1 0 4", "2 2 3 0");
        Desk ends = rich();
        ends.due(-100, "read", 0, 0, 5, 0);
        ends.due(-100, "read", 0, 0, 0, 0);
        edge(2, "then FULL;");
        each(EdgeTests::full, FULL, "read", "0 0 0 2", "0 0 0 0", "3 0 0 1");
        each(EdgeTests::full, INDEX, "read", "0 0 0 3");
        edge(2, "-100 less the FIRST FAULT: it is no TEXT.");
        each(-100, "read", "0 0 5 0", "0 0 1 1", "1 1 2 1");
        each(-101, "read", "0 0 3 2", "1 1 0 1");
        each(-102, "read", "0 0 0 2", "1 1 0 3");
        each(-103, "read", "0 0 0 5", "0 0 0 4");
    }

    private static void makings() {
        edge(3, "A SENTENCE of others: 0 not a (b is not looked at),");
        Desk d = with("a", "-a", "b", "1", "0");
        int[] seconds = {-1, 60, 4, LEAST, GREATEST, 0};
        for (int i = 0; i < seconds.length; i++) {
            d.due(5 + i, "make", 0, 0, seconds[i]);
            d.due(3, "compare", 5 + i, 1);
        }
        edge(3, "1 a and b, 2 a or b, 3 if a then b, 4 a just if b: its number.");
        int[][] due = {{0, 0, 0, 1}, {0, 1, 1, 1}, {1, 0, 1, 1}, {1, 0, 0, 1}};
        for (int how = 1; how < 5; how++) {
            d.due(10 + how, "make", how, 0, 2);
            for (int w = 0; w < 4; w++) {
                d.due(due[how - 1][w], "truth", 10 + how, w);
                d.due(due[how - 1][w], "truth", 10 + how, 252 + w);
            }
        }
        int[] alike = {0, 3, 0, 0}, withNone = {4, 0, 1, 1};
        for (int how = 1; how < 5; how++) {
            int made = (int) d.ask("make", how, 3, 0);
            d.due(3, "compare", made, alike[how - 1]);
            made = (int) d.ask("make", how, 0, 4);
            d.due(3, "compare", made, withNone[how - 1]);
        }
        edge(3, "OUTSIDE: how;");
        each(OUTSIDE, "make", "-1 0 0", "5 0 0", "5 -1 -1", "L 0 0", "G 7 7");
        each(EdgeTests::full, OUTSIDE, "make", "5 0 0");
        edge(3, "UNKNOWN;");
        each(UNKNOWN, "make", "0 7 0", "0 -1 0", "1 0 7", "1 7 0", "2 -1 0", "3 0 -1", "4 0 L", "4 G 0");
        each(EdgeTests::full, UNKNOWN, "make", "0 60 0", "1 0 60");
        edge(3, "FULL.");
        each(EdgeTests::full, FULL, "make", "0 0 0", "0 0 60", "1 59 59", "2 0 0", "3 0 0", "4 0 0");
    }

    private static void asking() {
        edge(4, "How many WORLDS a SENTENCE is true in.");
        Desk d = with("0", "1", "a", "a&b&c&d&e&f&g&h", "a|b|c|d|e|f|g|h", "-(a|b|c|d|e|f|g|h)", "g&h");
        row(d, "worlds", new int[] {0, 256, 128, 1, 255, 1, 64});
        edge(4, "UNKNOWN.");
        each(UNKNOWN, "worlds", "-1", "7", "L", "G");
        each(EdgeTests::full, UNKNOWN, "worlds", "60");
        each(Desk::new, UNKNOWN, "worlds", "0");
        edge(5, "Whether it is true in a WORLD: 1, 0.");
        int[][] due = {{0, 0}, {1, 1}, {0, 1}, {0, 1}, {0, 1}, {1, 0}, {0, 1}};
        for (int s = 0; s < due.length; s++) {
            d.due(due[s][0], "truth", s, 0);
            d.due(due[s][1], "truth", s, 255);
        }
        for (int w = 0; w < 256; w++) d.due(w >= 192 ? 1 : 0, "truth", 6, w);
        edge(5, "UNKNOWN: SENTENCE, WORLD.");
        each(UNKNOWN, "truth", "-1 0", "7 0", "L 0", "G 0", "0 -1", "0 256", "0 L", "0 G", "7 256");
        edge(6, "Of two SENTENCES: 1 b is true wherever a is, but not turned round; 2 turned round; 3 both are alike; "
            + "4 they are true in no WORLD together;");
        Desk two = with("a", "a|b", "-a", "a&1", "c");
        int[][] pairs = {{0, 1, 1}, {1, 0, 2}, {0, 3, 3}, {0, 2, 4}, {0, 4, 0}};
        for (int[] pair : pairs) two.due(pair[2], "compare", pair[0], pair[1]);
        edge(6, "3, 1, 2, 4 are asked in this order, 0 is what is left.");
        Desk none = with("0", "1", "a", "b&-b");
        int[][] order = {{3, 1, 1, 3}, {2, 3, 2, 2}, {2, 1, 3, 2}, {3, 1, 1, 3}};
        for (int a = 0; a < 4; a++) row(none, "compare", order[a], a);
        edge(6, "UNKNOWN.");
        each(UNKNOWN, "compare", "-1 0", "0 -1", "7 0", "0 7", "L L", "G G");
        edge(7, "TRUST of a SOURCE becomes v: what it was.");
        Desk d7 = new Desk();
        for (int source = 0; source < 6; source++) {
            d7.due(5, "trust", source, 1 + source);
            d7.due(1 + source, "trust", source, 9 - source);
        }
        for (int source = 0; source < 6; source++) d7.due(9 - source, "trust", source, 5);
        edge(7, "UNKNOWN;");
        each(UNKNOWN, "trust", "-1 5", "6 5", "6 0", "-1 10", "L 5", "G 5");
        edge(7, "OUTSIDE.");
        each(OUTSIDE, "trust", "0 0", "0 10", "5 -1", "0 L", "2 G");
    }

    // ---- 2 the book

    private static void book() {
        edge(0, "THE BOOK: ENTRIES, 12 ever, numbered as they come: a SENTENCE, by a SOURCE, true FROM .. TO (0 .. 99), "
            + "KNOWN since a time (0 .. 99), and perhaps GIVEN UP at one.");
        Desk d = with("a", "b");
        for (int e = 0; e < 12; e++) {
            d.due(UNKNOWN, "entry", e, 0);
            if (e % 3 == 2) d.due(e, "news", 0, 0);
            else d.due(e, "hold", 1, 0, 0, 99, 0);
            // what is given up keeps its place
            d.due(NONE, "drop", e, 0);
        }
        d.due(0, "many", 2);
        d.due(FULL, "hold", 0, 0, 0, 99, 0);
        d.due(FULL, "news", 0, 0);
        d.due(12, "many", 1);
        int[][] times = {{0, 0, 0}, {99, 99, 99}, {0, 99, 99}, {0, 99, 0}, {50, 51, 1}};
        Desk t = with("a");
        for (int e = 0; e < times.length; e++) {
            t.due(e, "hold", 0, 0, times[e][0], times[e][1], times[e][2]);
            for (int what = 2; what < 5; what++) t.due(times[e][what - 2], "entry", e, what);
            t.due(NONE, "drop", e, 0);
            t.due(0, "drop", e, 99);
            t.due(99, "entry", e, 5);
        }
        views();
        sums();
        holding();
        entries();
    }

    private static void views() {
        edge(0, "THE VIEW: of time t, as known at time k (0 .. 99 each; 0, 99 at first).");
        Desk d = with("a", "b");
        d.due(0, "many", 5);
        d.due(99, "many", 6);
        d.ask("hold", 0, 0, 0, 0, 99);
        d.ask("hold", 1, 0, 1, 99, 0);
        d.due(1, "many", 8);
        d.due(1, "view", 99, 0);
        d.due(2, "many", 8);
        d.due(0, "view", 0, 0);
        d.due(1, "view", 99, 99);
        d.due(1, "view", 0, 99);
        d.due(1, "many", 8);
        edge(0, "IN VIEW: ENTRIES with FROM <= t <= TO, KNOWN at k or ahead, not GIVEN UP at k or ahead.");
        Desk v = with("a");
        v.ask("hold", 0, 0, 10, 20, 30);
        v.ask("drop", 0, 40);
        int[][] views = {{9, 35, 0}, {10, 35, 1}, {20, 35, 1}, {21, 35, 0}, {15, 29, 0}, {15, 30, 1}, {15, 39, 1}, {15, 40, 0},
            {15, 41, 0}, {15, 99, 0}, {15, 0, 0}, {0, 35, 0}, {99, 35, 0}};
        for (int[] view : views) {
            v.due(view[2], "view", view[0], view[1]);
            v.due(view[2], "entry", 0, 6);
        }
        // given up as soon as known, and sooner: never in view
        for (int at : new int[] {30, 10, 0}) {
            v.ask("drop", 0, at);
            for (int k : new int[] {0, 9, 10, 29, 30, 31, 99}) v.due(0, "view", 15, k);
        }
        v.ask("drop", 0, NONE);
        v.due(1, "view", 15, 99);
        edge(9, "THE VIEW becomes t, k: how many ENTRIES are IN VIEW.");
        Desk all = full();
        all.due(12, "view", 0, 0);
        all.due(12, "view", 99, 99);
        all.due(99, "many", 5);
        all.due(99, "many", 6);
        new Desk().due(0, "view", 50, 50);
        edge(9, "OUTSIDE.");
        each(OUTSIDE, "view", "-1 0", "100 0", "0 -1", "0 100", "L L", "G G", "10 G", "L 50");
    }

    private static void sums() {
        edge(0, "WEIGHT of a set of ENTRIES: the sum of their SOURCES' TRUST.");
        Desk d = with("a");
        for (int e = 0; e < 12; e++) d.ask("hold", 0, 0, 0, 99, 0);
        d.ask("trust", 0, 9);
        d.due(108, "weight", 4095);
        d.due(9, "weight", 2048);
        d.ask("trust", 0, 1);
        d.due(12, "weight", 4095);
        edge(12, "WEIGHT of a set of ENTRIES.");
        Desk r = rich();
        int[] weights = {0, 5, 5, 10, 3, 8, 8, 13, 5, 10, 10, 15, 8, 13, 13, 18};
        row(r, "weight", weights);
        edge(12, "OUTSIDE: a bit that is none's.");
        each(OUTSIDE, "weight", "16", "17", "-1", "L", "G");
        each(Desk::new, OUTSIDE, "weight", "1", "-1", "4096");
        each(EdgeTests::full, OUTSIDE, "weight", "4096", "4097", "8191", "L");
        new Desk().due(0, "weight", 0);
        edge(0, "WORLDS of a set: those in which all their SENTENCES are true (all, of none).");
        Desk t = with("a", "-a", "0", "1", "b").holds(0, 0, 1, 0, 2, 0, 3, 0, 4, 0);
        int[][] sets = {{0, 256}, {1, 128}, {2, 128}, {3, 0}, {4, 0}, {8, 256}, {9, 128}, {17, 64}, {31, 0}};
        for (int[] set : sets) t.due(set[1], "together", set[0]);
        edge(13, "How many WORLDS a set of ENTRIES has.");
        t.ask("drop", 0, 0);
        t.due(128, "together", 1);
        full().due(128, "together", 4095);
        edge(13, "OUTSIDE.");
        each(OUTSIDE, "together", "16", "-1", "L", "G");
        each(Desk::new, OUTSIDE, "together", "1");
        each(EdgeTests::full, OUTSIDE, "together", "4096", "-4096");
    }

    private static void holding() {
        edge(8, "An ENTRY: its number.");
        Desk d = with("a");
        for (int e = 0; e < 12; e++) d.due(e, "hold", 0, 5, 0, 99, 0);
        edge(8, "UNKNOWN: SENTENCE, SOURCE;");
        each(UNKNOWN, "hold", "-1 0 0 99 0", "7 0 0 99 0", "0 -1 0 99 0", "0 6 0 99 0", "L 0 0 0 0", "G 0 0 0 0", "0 L 0 0 0",
            "0 G 0 0 0", "0 6 9 8 100");
        each(EdgeTests::full, UNKNOWN, "hold", "60 0 0 99 0", "0 6 0 99 0");
        edge(8, "OUTSIDE: from, to (from above to, too), known;");
        each(OUTSIDE, "hold", "0 0 -1 99 0", "0 0 100 100 0", "0 0 0 100 0", "0 0 -1 -1 0", "0 0 6 5 0", "0 0 99 98 0",
            "0 0 1 0 0", "0 0 0 99 -1", "0 0 0 99 100", "0 0 L G 0", "0 0 0 G 0", "0 0 0 99 L", "0 0 0 99 G");
        each(EdgeTests::full, OUTSIDE, "hold", "0 0 6 5 0", "0 0 0 99 100");
        edge(8, "FULL.");
        each(EdgeTests::full, FULL, "hold", "0 0 0 99 0", "59 5 99 99 99");
    }

    private static void entries() {
        edge(10, "Of an ENTRY: 0 SENTENCE, 1 SOURCE, 2 FROM, 3 TO, 4 KNOWN,");
        Desk d = rich();
        int[][] told = {{0, 0, 0, 99, 0}, {1, 1, 5, 20, 10}, {2, 2, 0, 99, 60}, {6, 0, 0, 99, 0}};
        for (int e = 0; e < 4; e++) row(d, "entry", told[e], e);
        edge(10, "5 when it was GIVEN UP (NONE),");
        int[] givenUp = {NONE, NONE, NONE, 40};
        for (int e = 0; e < 4; e++) d.due(givenUp[e], "entry", e, 5);
        edge(10, "6 whether it is IN VIEW (1, 0), 7 whether it is IN VIEW and FREE,");
        int[] inView = {1, 1, 0, 0};
        for (int e = 0; e < 4; e++) for (int what = 6; what < 8; what++) d.due(inView[e], "entry", e, what);
        d.ask("hold", 2, 3, 0, 99, 0);
        int[] free = {0, 1, 0, 0, 0};
        for (int e = 0; e < 5; e++) d.due(free[e], "entry", e, 7);
        d.due(1, "entry", 4, 6);
        d.due(1, "entry", 0, 6);
        edge(10, "8 in how many HARMONIES it is.");
        int[] sharing = {1, 2, 0, 0, 1};
        for (int e = 0; e < 5; e++) d.due(sharing[e], "entry", e, 8);
        d.ask("hold", 5, 0, 0, 99, 0);
        d.due(0, "entry", 5, 8);
        d.due(0, "entry", 5, 7);
        d.due(1, "entry", 5, 6);
        Desk many = pairs();
        for (int e = 0; e < 12; e++) many.due(32, "entry", e, 8);
        for (int e = 0; e < 12; e += 3) many.ask("drop", e, 0);
        for (int e = 0; e < 12; e++) many.due(e % 3 == 0 ? 0 : e == 1 || e == 2 || e == 7 || e == 8 ? 4 : 2, "entry", e, 8);
        edge(10, "UNKNOWN;");
        each(UNKNOWN, "entry", "4 0", "-1 0", "4 9", "-1 -1", "L 0", "G 0");
        each(EdgeTests::full, UNKNOWN, "entry", "12 0");
        edge(10, "OUTSIDE.");
        each(OUTSIDE, "entry", "0 9", "0 -1", "3 L", "0 G");
        edge(11, "An ENTRY is GIVEN UP at a time (NONE: it is not): what it was (NONE).");
        Desk g = with("a").holds(0, 0);
        int[] times = {0, 99, NONE, NONE, 98, 50, NONE};
        int was = NONE;
        for (int at : times) {
            g.due(was, "drop", 0, at);
            g.due(at, "entry", 0, 5);
            g.due(at == NONE ? 1 : 0, "many", 2);
            was = at;
        }
        edge(11, "UNKNOWN;");
        each(UNKNOWN, "drop", "4 0", "-1 0", "4 100", "-1 -1", "L 0", "G -9");
        edge(11, "OUTSIDE.");
        each(OUTSIDE, "drop", "0 100", "0 -1", "0 -8", "0 -10", "0 L", "3 G");
    }

    // Twelve entries: each of six letters, and its contrary.
    private static Desk pairs() {
        Desk d = new Desk();
        for (int k = 0; k < 6; k++) d.say("" + (char) ('a' + k), "-" + (char) ('a' + k));
        for (int s = 0; s < 12; s++) d.ask("hold", s, s / 2, 0, 99, 0);
        return d;
    }

    private static void following() {
        edge(0, "A REASON for a SENTENCE: a set of ENTRIES IN VIEW of whose WORLDS it FOLLOWS, no lesser set of which does.");
        Desk r = with("a", "b", "a&b", "1", "0", "-a").holds(0, 0, 1, 0, 2, 0);
        int[][] many = {{2, 0}, {2, 0}, {2, 0}, {1, 0}, {0, 1}, {0, 2}};
        for (int s = 0; s < 6; s++) row(r, "reasons", many[s], s);
        r.ask("hold", 5, 0, 0, 99, 0);
        // now what is apart is a reason for all: sets 9 and 12 for what no other set tells
        r.due(2, "reasons", 4, 0);
        r.due(3, "reasons", 1, 0);
        r.due(9, "reason", 1, 0, 2);
        r.ask("drop", 0, 0);
        r.due(2, "reasons", 1, 0);
        r.due(1, "reasons", 0, 0);
        new Desk().due(UNKNOWN, "reasons", 0, 0);
        Desk none = with("1", "a");
        none.due(1, "reasons", 0, 0);
        none.due(0, "reasons", 1, 0);
        Desk all = with("a&b&c&d", "a", "b", "c", "d", "e", "f", "g", "h", "a&b&c&d&e&f&g&h");
        all.holds(1, 0, 2, 0, 3, 0, 4, 0, 5, 0, 6, 0, 7, 0, 8, 0, 0, 0, 0, 0, 9, 0, 9, 0);
        all.due(5, "reasons", 9, 0);
        row(all, "reason", new int[] {255, 0x1F0, 0x2F0, 0x400, 0x800, UNKNOWN}, 9, 0);
        harmonious();
        heldSenses();
        asked();
    }

    private static void harmonious() {
        edge(0, "HARMONIES: sets of ENTRIES IN VIEW that have a WORLD, such that none with one more of those IN VIEW has.");
        Desk none = with("0", "a", "-a", "b", "a&b");
        none.due(1, "harmonies", 0);
        none.due(0, "harmony", 0, 0);
        none.holds(0, 0);
        none.due(1, "harmonies", 0);
        none.due(0, "harmony", 0, 0);
        none.due(0, "harmonies", 3);
        none.due(0, "entry", 0, 7);
        none.holds(1, 1, 3, 1, 4, 1, 2, 2);
        none.due(2, "harmonies", 0);
        row(none, "harmony", new int[] {14, 20, UNKNOWN}, 0);
        none.ask("drop", 2, 99);
        row(none, "harmony", new int[] {10, 16, UNKNOWN}, 0);
        edge(0, "BEST ones: of those with the greatest WEIGHT.");
        none.due(1, "harmonies", 1);
        none.due(10, "harmony", 1, 0);
        none.due(10, "harmonies", 2);
        none.ask("trust", 2, 9);
        none.ask("trust", 1, 4);
        none.due(16, "harmony", 1, 0);
        none.due(9, "harmonies", 2);
        none.ask("trust", 2, 8);
        none.due(2, "harmonies", 1);
        none.due(8, "harmonies", 2);
        Desk empty = new Desk();
        empty.due(1, "harmonies", 1);
        empty.due(0, "harmony", 1, 0);
        empty.due(0, "harmonies", 2);
        edge(0, "FREE ENTRIES: those that are in all HARMONIES.");
        empty.due(0, "harmonies", 3);
        none.due(0, "harmonies", 3);
        none.holds(4, 5);
        none.due(0, "harmonies", 3);
        none.ask("drop", 4, 0);
        none.due(0x2A, "harmonies", 3);
        full().due(4095, "harmonies", 3);
        pairs().due(0, "harmonies", 3);
        edge(0, "(All such sets are in order as numbers.)");
        Desk many = pairs();
        many.due(64, "harmonies", 0);
        many.due(64, "harmonies", 1);
        for (int i = 0; i < 64; i++) {
            int set = 0;
            for (int k = 0; k < 6; k++) set |= 1 << 2 * k + (i >> k & 1);
            many.due(set, "harmony", 0, i);
            many.due(set, "harmony", 1, i);
        }
        // what is in two of them that are apart: six reasons for what is never true
        int none0 = many.say("0");
        for (int i = 0; i < 6; i++) many.due(3 << 2 * i, "reason", none0, 0, i);
        many.due(64, "cuts", none0);
        for (int i = 0; i < 64; i++) {
            int set = 0;
            for (int k = 0; k < 6; k++) set |= 1 << 2 * k + (i >> k & 1);
            many.due(set, "cutOf", none0, i);
        }
    }

    private static void heldSenses() {
        edge(0, "A SENTENCE IS HELD, in five senses: 0 it FOLLOWS of all ENTRIES IN VIEW; 1 of each HARMONY; 2 of some; "
            + "3 of each BEST one; 4 of the FREE ENTRIES.");
        Desk none = with("1", "a", "0", "a|b|c|d|e|f|g|h");
        for (int s = 0; s < 4; s++) for (int sense = 0; sense < 5; sense++) none.due(s == 0 ? 1 : 0, "held", s, sense);
        Desk d = with("a&c", "-a&c", "b", "0", "1", "c", "d", "a", "-a").holds(0, 0, 1, 1, 2, 2);
        d.ask("trust", 0, 6);
        int[][] held = {{1, 0, 1, 1, 0}, {1, 0, 1, 0, 0}, {1, 1, 1, 1, 1}, {1, 0, 0, 0, 0}, {1, 1, 1, 1, 1},
            {1, 1, 1, 1, 0}, {1, 0, 0, 0, 0}, {1, 0, 1, 1, 0}, {1, 0, 1, 0, 0}};
        for (int s = 0; s < held.length; s++) row(d, "held", held[s], s);
        d.ask("trust", 1, 6);
        // two best ones
        int[] best = {0, 0, 1, 0, 1, 1, 0, 0, 0};
        for (int s = 0; s < best.length; s++) d.due(best[s], "held", s, 3);
        d.ask("drop", 1, 50);
        int[] one = {1, 0, 1, 0, 1, 1, 0, 1, 0};
        for (int s = 0; s < one.length; s++) for (int sense = 0; sense < 5; sense++) d.due(one[s], "held", s, sense);
        edge(18, "Whether a SENTENCE IS HELD in a sense: 1, 0.");
        Desk all = full();
        for (int sense = 0; sense < 5; sense++) {
            all.due(1, "held", 0, sense);
            all.due(1, "held", 1, sense);
            all.due(0, "held", 2, sense);
            all.due(0, "held", 3, sense);
        }
        edge(18, "UNKNOWN;");
        each(UNKNOWN, "held", "7 0", "-1 0", "7 5", "-1 -1", "L 0", "G 0");
        edge(18, "OUTSIDE.");
        each(OUTSIDE, "held", "0 5", "0 -1", "0 L", "0 G");
    }

    private static void asked() {
        edge(14, "How many REASONS a SENTENCE has (way 0), its contrary has (1).");
        Desk d = rich();
        int[][] many = {{1, 0}, {1, 0}, {0, 1}, {1, 0}, {1, 0}, {0, 1}, {0, 0}};
        for (int s = 0; s < 7; s++) row(d, "reasons", many[s], s);
        edge(14, "UNKNOWN;");
        each(UNKNOWN, "reasons", "7 0", "-1 0", "7 2", "-1 -1", "L 0", "G 1");
        edge(14, "OUTSIDE.");
        each(OUTSIDE, "reasons", "0 2", "0 -1", "0 L", "0 G");
        edge(15, "The i-th REASON.");
        int[][] first = {{1, UNKNOWN}, {2, UNKNOWN}, {UNKNOWN, 1}, {3, UNKNOWN}, {0, UNKNOWN}, {UNKNOWN, 0}, {UNKNOWN, UNKNOWN}};
        for (int s = 0; s < 7; s++) for (int way = 0; way < 2; way++) d.due(first[s][way], "reason", s, way, 0);
        edge(15, "UNKNOWN: SENTENCE, i;");
        each(UNKNOWN, "reason", "7 0 0", "-1 0 0", "7 2 0", "0 0 -1", "0 0 1", "0 0 L", "0 0 G", "0 1 0", "6 0 0", "0 2 -1",
            "0 -1 4096", "L 0 0", "G 0 0");
        edge(15, "OUTSIDE: way.");
        each(OUTSIDE, "reason", "0 2 0", "0 -1 0", "4 L 0", "4 G 0");
        edge(16, "How many HARMONIES there are (what 0), BEST ones (1), WEIGHT of these (2), FREE ENTRIES as a set (3).");
        row(d, "harmonies", new int[] {1, 1, 10, 3});
        edge(16, "OUTSIDE.");
        each(OUTSIDE, "harmonies", "-1", "4", "L", "G");
        edge(17, "The i-th HARMONY (what 0), BEST one (1).");
        row(d, "harmony", new int[] {3, UNKNOWN}, 0);
        row(d, "harmony", new int[] {3, UNKNOWN}, 1);
        edge(17, "UNKNOWN: i;");
        each(UNKNOWN, "harmony", "0 1", "0 -1", "1 1", "1 -1", "0 L", "1 G", "2 -1", "-1 G");
        each(EdgeTests::pairs, UNKNOWN, "harmony", "0 64", "1 64");
        edge(17, "OUTSIDE.");
        each(OUTSIDE, "harmony", "2 0", "-1 0", "L 0", "G 0");
    }

    private static void givingUp() {
        edge(0, "A CUT of a SENTENCE: a set of ENTRIES IN VIEW without which it does not FOLLOW of the others, no lesser set "
            + "of which will do.");
        Desk d = with("a", "b", "a&b", "0", "1", "c").holds(0, 0, 1, 0, 2, 0);
        int[] many = {1, 1, 2, 1, 0, 1};
        row(d, "cuts", many);
        int[][] sets = {{5}, {6}, {5, 6}, {0}, {}, {0}};
        for (int s = 0; s < 6; s++) row(d, "cutOf", sets[s], s);
        d.ask("drop", 0, 99);
        int[][] then = {{4}, {6}, {4}, {0}, {}, {0}};
        for (int s = 0; s < 6; s++) row(d, "cutOf", then[s], s);
        edge(0, "(There is none of one that is true in all WORLDS; it is the empty one, if it does not FOLLOW of all.)");
        d.due(0, "cuts", 4);
        d.due(UNKNOWN, "cutOf", 4, 0);
        d.due(1, "cuts", 5);
        d.due(0, "cutOf", 5, 0);
        Desk strife = with("a", "-a", "c", "1", "0").holds(0, 0, 1, 1);
        for (int s : new int[] {2, 4}) row(strife, "cutOf", new int[] {1, 2, UNKNOWN}, s);
        strife.due(0, "cuts", 3);
        row(strife, "cutOf", new int[] {1, UNKNOWN}, 0);
        Desk empty = with("1", "a", "0");
        row(empty, "cuts", new int[] {0, 1, 1, UNKNOWN});
        leastCuts();
        edge(19, "How many CUTS a SENTENCE has.");
        row(rich(), "cuts", new int[] {1, 1, 1, 2, 0, 1, 1});
        pairs().due(32, "cuts", 0);
        edge(19, "UNKNOWN.");
        each(UNKNOWN, "cuts", "7", "-1", "L", "G");
        edge(20, "The i-th CUT.");
        row(rich(), "cutOf", new int[] {1, 2}, 3);
        edge(20, "UNKNOWN.");
        each(UNKNOWN, "cutOf", "7 0", "-1 0", "3 2", "3 -1", "3 L", "3 G", "4 0", "6 1", "L 0", "G 0");
        edge(21, "THE LEAST CUT.");
        row(rich(), "least", new int[] {1, 2, 0, 1, STATE, 0, 0});
        edge(21, "UNKNOWN;");
        each(UNKNOWN, "least", "7", "-1", "L", "G");
        edge(21, "STATE: it is true in all WORLDS.");
        each(STATE, "least", "4");
        Desk almost = with("a|b|c|d|e|f|g|h", "a|-a", "-(a&b&c&d&e&f&g&h)");
        row(almost, "least", new int[] {0, STATE, 0});
        givenUp();
        news();
        postulates();
    }

    private static void leastCuts() {
        edge(0, "THE LEAST CUT: of those of the least WEIGHT the ones with the fewest ENTRIES, of several the first.");
        Desk d = with("b>a", "c>a", "b&c", "a").holds(0, 0, 1, 0, 2, 1);
        int[][] trusts = {{1, 1, 4}, {1, 2, 4}, {1, 3, 3}, {2, 4, 4}, {2, 5, 3}, {4, 8, 4}, {4, 9, 3}, {9, 9, 4}};
        for (int[] row : trusts) {
            d.ask("trust", 0, row[0]);
            d.ask("trust", 1, row[1]);
            d.due(row[2], "least", 3);
        }
        Desk alike = with("a", "a>b", "b", "b>c", "c").holds(0, 0, 1, 1, 3, 2);
        alike.due(1, "least", 2);
        alike.due(1, "least", 4);
        alike.ask("trust", 0, 6);
        alike.due(2, "least", 2);
        alike.due(2, "least", 4);
        alike.ask("trust", 1, 9);
        alike.due(1, "least", 2);
        alike.due(4, "least", 4);
        // eleven light ones against one as heavy as nine: the heavy one, and two more would be lighter
        Desk many = with("b>a", "b", "a");
        for (int e = 0; e < 11; e++) many.ask("hold", 0, 0, 0, 99, 0);
        many.ask("hold", 1, 1, 0, 99, 0);
        many.ask("trust", 0, 1);
        many.ask("trust", 1, 9);
        many.due(2048, "least", 2);
        for (int e = 0; e < 2; e++) many.ask("drop", e, 0);
        many.due(2048, "least", 2);
        many.ask("drop", 2, 0);
        many.due(0x7F8, "least", 2);
    }

    private static void givenUp() {
        edge(22, "ENTRIES of THE LEAST CUT are GIVEN UP at THE VIEW's k: these.");
        for (int k : new int[] {0, 50, 99}) {
            Desk d = with("a", "b", "a&b").holds(0, 0, 1, 0, 2, 0);
            d.ask("view", 99, k);
            d.due(5, "giveUp", 0);
            int[] given = {k, NONE, k};
            for (int e = 0; e < 3; e++) d.due(given[e], "entry", e, 5);
            d.due(2, "many", 8);
            d.due(0, "giveUp", 0);
            d.due(0, "giveUp", 2);
            d.due(2, "giveUp", 1);
            d.due(0, "many", 8);
        }
        // what was to be given up later on is so at k; what is out of view stays as it was
        Desk later = with("a").holds(0, 0, 0, 0);
        later.ask("drop", 0, 60);
        later.ask("drop", 1, 20);
        later.ask("view", 0, 30);
        later.due(1, "giveUp", 0);
        later.due(30, "entry", 0, 5);
        later.due(20, "entry", 1, 5);
        Desk all = with("a", "-a", "b", "0");
        for (int e = 0; e < 12; e++) all.ask("hold", 0, 0, 0, 99, 0);
        all.due(4095, "giveUp", 0);
        all.due(0, "many", 2);
        all.due(12, "many", 1);
        edge(22, "UNKNOWN, STATE: as least().");
        each(UNKNOWN, "giveUp", "7", "-1", "L", "G");
        each(STATE, "giveUp", "4");
        refused(EdgeTests::rich, 0, 3, "giveUp", 6);
    }

    private static void news() {
        edge(23, "NEWS: ENTRIES of THE LEAST CUT of its contrary are GIVEN UP at THE VIEW's k; then it is an ENTRY by a SOURCE, "
            + "FROM THE VIEW's t to 99, KNOWN since k: its number.");
        for (int at : new int[] {0, 40, 99}) {
            Desk d = with("a", "b", "-(a&b)", "1").holds(0, 0, 1, 1);
            d.ask("trust", 0, 6);
            d.ask("view", at, 99 - at);
            d.due(2, "news", 2, 5);
            row(d, "entry", new int[] {2, 5, at, 99, 99 - at, NONE, 1, 1, 1}, 2);
            d.due(NONE, "entry", 0, 5);
            d.due(99 - at, "entry", 1, 5);
            d.due(5, "many", 8);
            d.due(3, "news", 2, 0);
            d.due(13, "many", 8);
            d.due(4, "news", 3, 0);
        }
        Desk strife = with("a", "-a", "b").holds(0, 0, 1, 1);
        // all follows of strife: so the contrary of b does, and one of the two goes
        strife.due(2, "news", 2, 2);
        strife.due(6, "many", 8);
        Desk twice = with("a", "-a");
        for (int e = 0; e < 12; e++) twice.due(e, "news", e % 2, 0);
        twice.due(2048, "many", 8);
        edge(23, "UNKNOWN;");
        each(UNKNOWN, "news", "7 0", "-1 0", "0 6", "0 -1", "5 6", "L 0", "G 0", "0 L", "0 G");
        edge(23, "STATE: it is true in no WORLD;");
        each(STATE, "news", "5 0");
        each(EdgeTests::full, STATE, "news", "2 5");
        edge(23, "FULL.");
        // sentence 4 is -b: its contrary follows, and nothing is given up
        each(EdgeTests::full, FULL, "news", "4 0", "0 0", "1 5", "3 0");
    }

    private static void postulates() {
        edge(24, "Whether giving up a SENTENCE by THE LEAST CUT, not done, would keep: 0 that it does not FOLLOW then; "
            + "1 that nothing goes, if it did not FOLLOW; 2 that each that goes is of some REASON for it; "
            + "3 that, with it taken in again, all that FOLLOWED of all ENTRIES IN VIEW FOLLOWS: 1, 0.");
        Desk d = with("a", "a>b", "b", "c", "0", "a&b").holds(0, 0, 1, 1);
        int[] recovers = {1, 1, 0, 1, 1, 1};
        for (int s = 0; s < 6; s++) row(d, "postulate", new int[] {1, 1, 1, recovers[s], OUTSIDE}, s);
        d.due(3, "many", 8);
        for (int e = 0; e < 2; e++) d.due(NONE, "entry", e, 5);
        Desk one = with("a&b", "a", "b", "a|b").holds(0, 0);
        int[] ones = {1, 0, 0, 0};
        for (int s = 0; s < 4; s++) row(one, "postulate", new int[] {1, 1, 1, ones[s]}, s);
        // only the first world comes to the one that was, or the last one
        String[][] neighbours = {{"a&-b&-c&-d&-e&-f&-g&-h", "-b&-c&-d&-e&-f&-g&-h"}, {"-a&b&c&d&e&f&g&h", "b&c&d&e&f&g&h"}};
        for (String[] texts : neighbours) row(with(texts).holds(0, 0), "postulate", new int[] {1, 1, 1, 0}, 1);
        Desk empty = with("a", "0");
        for (int s = 0; s < 2; s++) row(empty, "postulate", new int[] {1, 1, 1, 1}, s);
        Desk strife = with("a", "-a", "0", "b").holds(0, 0, 1, 1);
        // a went: with -a kept, what is never true brings all back, b does not
        int[] strifes = {1, 1, 1, 0};
        for (int s = 0; s < 4; s++) row(strife, "postulate", new int[] {1, 1, 1, strifes[s]}, s);
        edge(24, "UNKNOWN;");
        each(UNKNOWN, "postulate", "7 0", "-1 0", "7 4", "-1 -1", "L 0", "G 0");
        edge(24, "OUTSIDE;");
        each(OUTSIDE, "postulate", "0 4", "0 -1", "4 4", "4 -1", "0 L", "0 G");
        edge(24, "STATE: as least().");
        each(STATE, "postulate", "4 0", "4 1", "4 2", "4 3");
    }

    // ---- 3 rules

    private static void rules() {
        edge(0, "RULES, 10 ever, numbered as they come: IF a SENTENCE, THEN another one, UNLESS a third one; of a RANK "
            + "(0 .. 9); kind 0 RULE; 1 BARRED, a RULE; 2 LOOSE, a BARRED one.");
        Desk d = with("a", "b", "c");
        for (int r = 0; r < 10; r++) {
            d.due(UNKNOWN, "ruled", r, 0);
            d.due(r, "rule", r % 3, r % 3, (r + 1) % 3, (r + 2) % 3, r);
            row(d, "ruled", new int[] {r % 3, r % 3, (r + 1) % 3, (r + 2) % 3, r}, r);
        }
        d.due(FULL, "rule", 0, 0, 0, 0, 0);
        d.due(UNKNOWN, "ruled", 10, 0);
        for (int k = 0; k < 6; k++) d.ask("take", k, 1, k);
        int[][] as = {{CAST, 0, CAST, CAST}, {CAST, 1, 1, CAST}, {CAST, 2, 2, 2}, {CAST, 3, CAST, CAST}};
        for (int k = 0; k < 4; k++) row(d, "as", as[k], k);
        edge(0, "BASE: WORLDS of all ENTRIES IN VIEW.");
        d.due(256, "extensions", 2);
        d.ask("hold", 0, 0, 5, 99, 0);
        d.due(256, "extensions", 2);
        d.ask("view", 5, 99);
        d.due(128, "extensions", 2);
        d.ask("hold", 1, 0, 0, 99, 0);
        d.due(64, "extensions", 2);
        d.ask("hold", d.say("-a"), 0, 0, 99, 0);
        d.due(0, "extensions", 2);
        d.ask("drop", 2, 9);
        d.due(64, "extensions", 2);
        going();
        extending();
        barring();
        ruling();
    }

    private static void going() {
        edge(0, "Of a set of WORLDS E a RULE GOES, if its IF FOLLOWS of E, and THEN is true and UNLESS is not in some WORLD of E.");
        // if, then, unless, and whether it goes of the worlds of -b
        String[] sentences = {"1", "0", "a", "b", "-b", "a|b", "-a", "a&b"};
        int[][] due = {{0, 2, 1, 1}, {0, 1, 1, 0}, {0, 0, 1, 1}, {0, 0, 0, 0}, {0, 2, 2, 0}, {0, 2, 6, 1}, {0, 3, 1, 0},
            {0, 2, 3, 1}, {0, 5, 2, 0}, {0, 4, 2, 1}, {2, 4, 1, 0}, {3, 4, 1, 0}, {4, 2, 1, 1}, {4, 2, 5, 0}, {4, 0, 4, 0},
            {6, 2, 1, 0}, {1, 2, 1, 0}, {4, 6, 5, 1}, {4, 7, 1, 0}, {0, 0, 7, 1}};
        for (int i = 0; i < due.length; i += 10) {
            Desk d = with(sentences).holds(4, 0);
            for (int r = 0; r < 10; r++) {
                int[] rule = due[i + r];
                d.due(r, "rule", r % 3, rule[0], rule[1], rule[2], 0);
            }
            for (int r = 0; r < 10; r++) d.due(due[i + r][3], "ruled", r, 5);
            // of no worlds all follows, but there is none where THEN is true
            d.holds(3, 0);
            for (int r = 0; r < 10; r++) d.due(0, "ruled", r, 5);
        }
        // THEN true in one world, UNLESS not true in another one only: it does not go
        Desk apart = with("1", "a", "-b", "a>b").holds(3, 0);
        apart.ask("rule", 0, 0, 1, apart.say("b"), 0);
        apart.due(0, "ruled", 0, 5);
        // the one world where it can is the first, or the last
        Desk ends = with("1", "0", "-(a|b|c|d|e|f|g|h)", "a&b&c&d&e&f&g&h", "a|b|c|d|e|f|g|h", "-(a&b&c&d&e&f&g&h)");
        int[][] rules = {{2, 1}, {3, 1}, {0, 4}, {0, 5}, {4, 4}, {5, 5}};
        for (int[] rule : rules) ends.ask("rule", 0, 0, rule[0], rule[1], 0);
        for (int r = 0; r < 6; r++) ends.due(r < 4 ? 1 : 0, "ruled", r, 5);
    }

    private static Desk quarrels(int... ranks) {
        Desk d = with("1");
        for (int k = 0; k < 5; k++) d.say("" + (char) ('a' + k), "-" + (char) ('a' + k));
        for (int r = 0; r < 10; r++) d.ask("rule", r % 3, 0, 1 + r, 1 + (r ^ 1), ranks.length > r ? ranks[r] : 0);
        return d;
    }

    private static void extending() {
        edge(0, "AN EXTENSION: a set of RULES; its WORLDS E are those of BASE in which all their THENS are true; its RULES are "
            + "just those that GO of E; and they can be put in a row such that the IF of each FOLLOWS of those WORLDS of BASE "
            + "in which the THENS of those ahead of it are true.");
        Desk none = new Desk();
        none.due(1, "extensions", 0);
        none.due(0, "extension", 0, 0);
        none.due(256, "extension", 2, 0);
        Desk two = with("a", "b", "0", "1", "c", "-a");
        two.ask("rule", 0, 0, 1, 2, 0);
        two.ask("rule", 0, 1, 0, 2, 0);
        row(two, "extension", new int[] {0, UNKNOWN}, 0);
        two.ask("rule", 2, 4, 0, 2, 0);
        two.ask("rule", 1, 3, 4, 2, 0);
        row(two, "extension", new int[] {15, UNKNOWN}, 0);
        row(two, "extension", new int[] {32, UNKNOWN}, 2);
        two.holds(2, 0);
        row(two, "extension", new int[] {0, UNKNOWN}, 0);
        row(two, "extension", new int[] {0, UNKNOWN}, 2);
        two.ask("drop", 0, 0);
        // what bars itself does no harm where it can not go
        two.ask("rule", 0, 3, 5, 5, 0);
        two.ask("drop", 0, 0);
        row(two, "extension", new int[] {15, UNKNOWN}, 0);
        // three that bar one another in a ring: none, until one can not go
        Desk ring = stuck();
        ring.due(0, "extensions", 0);
        for (int what = 0; what < 3; what++) ring.due(UNKNOWN, "extension", what, 0);
        ring.holds(4, 0);
        row(ring, "extension", new int[] {4, UNKNOWN}, 0);
        row(ring, "extension", new int[] {64, UNKNOWN}, 2);
        // ten in a row, the last one first
        Desk chain = with("d", "b", "g", "g|h", "e", "e|f", "c", "c|d", "a", "a|b", "1", "0");
        for (int r = 0; r < 10; r++) chain.ask("rule", 0, r + 1, r, 11, 0);
        row(chain, "extension", new int[] {1023, UNKNOWN}, 0);
        row(chain, "extension", new int[] {4, UNKNOWN}, 2);
        // what can not go gives no ground to others
        Desk ground = with("a", "b", "0", "1");
        ground.ask("rule", 0, 3, 0, 3, 0);
        ground.ask("rule", 0, 0, 1, 2, 0);
        ground.ask("rule", 0, 1, 0, 2, 0);
        row(ground, "extension", new int[] {0, UNKNOWN}, 0);
        edge(0, "BEST ones: with the most RULES of RANK 0, of these with the most of RANK 1, and so on.");
        int[][] ranks = {{0, 0, 0, 0, 0, 0, 0, 0, 0, 0}, {9, 9, 9, 9, 9, 9, 9, 9, 9, 9}, {0, 9, 0, 9, 0, 9, 0, 9, 0, 9},
            {9, 8, 9, 8, 9, 8, 9, 8, 9, 8}, {0, 1, 1, 0, 3, 3, 8, 7, 9, 9}};
        int[] many = {32, 32, 1, 1, 4}, first = {0x155, 0x155, 0x155, 0x2AA, 0x199};
        for (int i = 0; i < ranks.length; i++) {
            Desk d = quarrels(ranks[i]);
            d.due(32, "extensions", 0);
            d.due(many[i], "extensions", 1);
            d.due(first[i], "extension", 1, 0);
        }
        outranked();
    }

    // One rule against three.
    private static void outranked() {
        int[][] ranks = {{0, 1, 1, 1, 1}, {1, 1, 1, 1, 14}, {8, 9, 9, 9, 1}, {9, 8, 9, 9, 14}, {4, 9, 9, 4, 14},
            {4, 5, 5, 5, 1}, {9, 9, 9, 9, 14}, {0, 0, 9, 9, 14}, {3, 4, 4, 3, 14}, {3, 4, 2, 9, 14}};
        for (int[] row : ranks) {
            Desk d = with("1", "-a&-b&-c", "a|b|c", "a", "b", "c");
            d.ask("rule", 0, 0, 1, 2, row[0]);
            for (int r = 1; r < 4; r++) d.ask("rule", 0, 0, 2 + r, 1, row[r]);
            row(d, "extension", new int[] {1, 14, UNKNOWN}, 0);
            row(d, "extension", new int[] {row[4], UNKNOWN}, 1);
        }
        for (int rank = 0; rank < 10; rank++) {
            Desk nine = with("1", "-(a|b|c|d|e|f|g|h)", "a|b|c|d|e|f|g|h", "a", "b", "c", "d", "e", "f", "g", "h", "a|b");
            nine.ask("rule", 0, 0, 1, 2, rank);
            for (int r = 1; r < 10; r++) nine.ask("rule", 0, 0, 2 + r, 1, Math.min(9, rank + 1));
            row(nine, "extension", new int[] {1, 0x3FE, UNKNOWN}, 0);
            row(nine, "extension", new int[] {rank < 9 ? 1 : 0x3FE, UNKNOWN}, 1);
        }
        Desk later = with("1", "a", "0", "-a");
        later.ask("rule", 0, 0, 1, 2, 0);
        row(later, "extension", new int[] {1, UNKNOWN}, 1);
        later.holds(3, 0);
        row(later, "extension", new int[] {0, UNKNOWN}, 1);
    }

    private static void barring() {
        edge(0, "A RULE BARS another one (or itself), if the UNLESS of that one FOLLOWS of those WORLDS of BASE in which its THEN "
            + "is true, and there is such a WORLD.");
        Desk d = with("1", "0", "a", "b", "a&b", "-a");
        int[][] rules = {{2, 2}, {4, 3}, {1, 0}, {0, 1}, {3, 5}};
        for (int r = 0; r < 5; r++) d.ask("rule", 0, 0, rules[r][0], rules[r][1], 0);
        // by THEN a, a&b, 0, 1, b: of UNLESS a, b, 1, 0, -a
        int[] bars = {5, 7, 0, 4, 6};
        for (int r = 0; r < 5; r++) d.due(bars[r], "ruled", r, 8);
        d.holds(3, 0);
        int[] then = {7, 7, 0, 6, 6};
        for (int r = 0; r < 5; r++) d.due(then[r], "ruled", r, 8);
        d.holds(5, 0);
        // no world of BASE where a is true: 0 and 1 bar none
        int[] last = {0, 0, 0, 22, 22};
        for (int r = 0; r < 5; r++) d.due(last[r], "ruled", r, 8);
        d.holds(2, 0);
        for (int r = 0; r < 5; r++) d.due(0, "ruled", r, 8);
        edge(0, "A CIRCLE: of a RULE the least number of steps by which it comes back to itself, each from a RULE to one that it BARS.");
        for (int size = 1; size <= 10; size++) {
            Desk ring = with("1", "a", "b", "c", "d", "e", "f", "g", "h", "-a&-b", "-a&-c", "0");
            for (int r = 0; r < size; r++) ring.ask("rule", 0, 0, 1 + r, 1 + (r + size - 1) % size, 0);
            for (int r = 0; r < size; r++) ring.due(size, "ruled", r, 7);
            if (size < 4 || size > 8) continue;
            // one that bars the first and is barred by it, and one that bars none
            ring.ask("rule", 0, 0, size, 1, 0);
            ring.ask("rule", 0, 0, 11, size, 0);
            ring.due(2, "ruled", 0, 7);
            ring.due(size, "ruled", 1, 7);
            ring.due(size, "ruled", size - 1, 7);
            ring.due(2, "ruled", size, 7);
            ring.due(NONE, "ruled", size + 1, 7);
        }
        Desk both = with("1", "a", "b", "c", "d", "a&d");
        int[][] links = {{1, 3}, {2, 1}, {3, 2}, {5, 4}, {4, 3}};
        for (int r = 0; r < 5; r++) both.ask("rule", 0, 0, links[r][0], links[r][1], 0);
        int[] circles = {3, 3, 3, 1, 4};
        for (int r = 0; r < 5; r++) both.due(circles[r], "ruled", r, 7);
    }

    private static void ruling() {
        edge(25, "A RULE of a kind: its number.");
        Desk d = with("a");
        for (int r = 0; r < 10; r++) d.due(r, "rule", r % 3, 0, 0, 0, 9 - r);
        edge(25, "OUTSIDE: kind;");
        each(OUTSIDE, "rule", "-1 0 0 0 0", "3 0 0 0 0", "3 7 7 7 10", "L 0 0 0 0", "G 0 0 0 0");
        each(EdgeTests::full, OUTSIDE, "rule", "3 0 0 0 0");
        edge(25, "UNKNOWN: SENTENCES;");
        each(UNKNOWN, "rule", "0 7 0 0 0", "1 0 7 0 0", "2 0 0 7 0", "0 -1 0 0 0", "0 0 -1 0 0", "0 0 0 -1 0", "0 0 0 7 10",
            "0 L 0 0 0", "0 0 G 0 0", "0 0 0 L -1");
        each(EdgeTests::full, UNKNOWN, "rule", "0 60 0 0 0", "0 0 60 0 0", "0 0 0 60 0");
        edge(25, "OUTSIDE: rank;");
        each(OUTSIDE, "rule", "0 0 0 0 -1", "1 0 0 0 10", "2 0 0 0 L", "0 0 0 0 G");
        each(EdgeTests::full, OUTSIDE, "rule", "0 0 0 0 10");
        edge(25, "FULL.");
        each(EdgeTests::full, FULL, "rule", "0 0 0 0 0", "2 59 59 59 9");
        edge(26, "Of a RULE: 0 kind, 1 IF, 2 THEN, 3 UNLESS, 4 RANK, 5 whether it GOES of BASE, 6 in how many EXTENSIONS it is, "
            + "7 CIRCLE (NONE), 8 RULES that it BARS.");
        Desk rich = rich();
        int[][] told = {{0, 4, 6, 2, 1, 1, 1, NONE, 2}, {1, 0, 3, 6, 2, 1, 0, NONE, 0}, {2, 4, 1, 5, 0, 1, 1, NONE, 0}};
        for (int r = 0; r < 3; r++) row(rich, "ruled", told[r], r);
        Desk many = quarrels();
        for (int r = 0; r < 10; r++) {
            many.due(16, "ruled", r, 6);
            many.due(2, "ruled", r, 7);
            many.due(1 << (r ^ 1), "ruled", r, 8);
        }
        many.holds(8, 0, 10, 0);
        for (int r = 0; r < 10; r++) many.due(r < 6 ? 4 : r % 2 == 1 ? 8 : 0, "ruled", r, 6);
        edge(26, "UNKNOWN;");
        each(UNKNOWN, "ruled", "3 0", "-1 0", "3 9", "-1 -1", "L 0", "G 0");
        each(EdgeTests::full, UNKNOWN, "ruled", "10 0");
        edge(26, "OUTSIDE.");
        each(OUTSIDE, "ruled", "0 9", "0 -1", "0 L", "2 G");
        concluding();
    }

    private static void concluding() {
        edge(27, "How many EXTENSIONS there are (what 0), BEST ones (1), WORLDS of BASE (2).");
        row(rich(), "extensions", new int[] {1, 1, 64});
        row(quarrels(0, 1, 0, 1), "extensions", new int[] {32, 8, 256});
        row(new Desk(), "extensions", new int[] {1, 1, 256});
        edge(27, "OUTSIDE.");
        each(OUTSIDE, "extensions", "-1", "3", "L", "G");
        edge(28, "The i-th EXTENSION (what 0), BEST one (1), as a set; how many WORLDS it has (2, of the i-th EXTENSION).");
        Desk d = quarrels(0, 1, 0, 1);
        for (int i = 0; i < 32; i++) {
            int set = 0;
            for (int k = 0; k < 5; k++) set |= 1 << 2 * k + (i >> k & 1);
            d.due(set, "extension", 0, i);
            if (i % 4 == 0) d.due(set, "extension", 1, i / 4);
            d.due(8, "extension", 2, i);
        }
        edge(28, "UNKNOWN: i;");
        each(UNKNOWN, "extension", "0 1", "0 -1", "1 1", "1 -1", "2 1", "2 -1", "3 -1", "-1 G", "0 L", "0 G", "2 G");
        each(EdgeTests::quarrels, UNKNOWN, "extension", "0 32", "2 32", "1 32");
        d.due(UNKNOWN, "extension", 1, 8);
        d.due(UNKNOWN, "extension", 2, 32);
        edge(28, "OUTSIDE.");
        each(OUTSIDE, "extension", "3 0", "-1 0", "L 0", "G 0");
        edge(29, "Whether a SENTENCE FOLLOWS of WORLDS of each EXTENSION (sense 0), of some (1), of each BEST one (2): 1, 0.");
        Desk q = quarrels(0, 1, 0, 0);
        int[][] due = {{1, 1, 1}, {0, 1, 1}, {0, 1, 0}, {0, 1, 0}, {0, 1, 0}};
        for (int s = 0; s < due.length; s++) row(q, "concluded", due[s], s);
        int more = q.say("0");
        row(q, "concluded", new int[] {0, 0, 0}, more);
        q.holds(more, 0);
        row(q, "concluded", new int[] {1, 1, 1}, more);
        Desk dull = with("a", "1");
        dull.ask("rule", 0, 1, 0, 1, 0);
        row(dull, "concluded", new int[] {0, 0, 0}, 0);
        row(dull, "concluded", new int[] {1, 1, 1}, 1);
        edge(29, "UNKNOWN;");
        each(UNKNOWN, "concluded", "7 0", "-1 0", "7 3", "L 0", "G 0");
        each(EdgeTests::stuck, UNKNOWN, "concluded", "5 0", "-1 0");
        edge(29, "OUTSIDE;");
        each(OUTSIDE, "concluded", "0 3", "0 -1", "0 L", "0 G");
        each(EdgeTests::stuck, OUTSIDE, "concluded", "0 3", "0 -1");
        edge(29, "NONE: there is no EXTENSION.");
        for (int sense = 0; sense < 3; sense++) for (int s = 0; s < 2; s++)
            refused(EdgeTests::stuck, NONE, 0, "concluded", s, sense);
    }

    // A desk without an extension.
    private static Desk stuck() {
        Desk d = with("1", "a", "b", "c", "-a");
        for (int r = 0; r < 3; r++) d.ask("rule", 0, 0, 1 + r, 1 + (r + 1) % 3, 0);
        return d;
    }

    // ---- 4 claims

    private static void claims() {
        edge(0, "CLAIMS, 12 ever, numbered as they come: a SENTENCE by a SOURCE.");
        Desk d = with("a", "b");
        for (int c = 0; c < 12; c++) {
            d.due(UNKNOWN, "claimed", c, 0);
            d.due(c, "claim", c % 2, c % 6);
            d.due(c % 2, "claimed", c, 0);
            d.due(c % 6, "claimed", c, 1);
        }
        d.due(FULL, "claim", 0, 0);
        d.due(UNKNOWN, "claimed", 12, 0);
        edge(0, "A CLAIM STRIKES another one, if both are true in no WORLD together, and its SOURCE's TRUST is not below the other's.");
        Desk s = with("a", "-a", "b", "0");
        for (int c = 0; c < 4; c++) s.ask("claim", c, c);
        int[][] alike = {{0, 1, 0, 1}, {1, 0, 0, 1}, {0, 0, 0, 1}, {1, 1, 1, 1}};
        for (int a = 0; a < 4; a++) row(s, "strikes", alike[a], a);
        s.ask("trust", 0, 4);
        s.ask("trust", 3, 6);
        int[][] other = {{0, 0, 0, 0}, {1, 0, 0, 0}, {0, 0, 0, 0}, {1, 1, 1, 1}};
        for (int a = 0; a < 4; a++) row(s, "strikes", other[a], a);
        s.ask("trust", 0, 9);
        s.ask("trust", 3, 1);
        int[][] last = {{0, 1, 0, 1}, {0, 0, 0, 1}, {0, 0, 0, 1}, {0, 0, 0, 1}};
        for (int a = 0; a < 4; a++) row(s, "strikes", last[a], a);
        // all six become others at once
        int[] trusts = {1, 2, 3, 2, 1, 1};
        for (int source = 0; source < 6; source++) s.ask("trust", source, trusts[source]);
        s.due(0, "strikes", 0, 1);
        int[][] then = {{0, 0, 0, 0}, {1, 0, 0, 1}, {0, 0, 0, 1}, {1, 1, 0, 1}};
        for (int a = 0; a < 4; a++) row(s, "strikes", then[a], a);
        standing();
        choosing();
        dialogues();
        claiming();
    }

    // Eleven claims, each of which is true with all but the next one and the one ahead of it. The first strikes the second,
    // this and the third strike each other, the third strikes the fourth, and so on: there can be no more rounds than six.
    private static Desk chain() {
        Desk d = with("-b", "b", "-a&-b", "(a|b)&-(a&b)", "(a>b)&(b>a)&-d", "d", "-c&-d", "(c|d)&-(c&d)", "(c>d)&(d>c)&e",
            "-e&f", "-f");
        for (int source = 0; source < 6; source++) d.ask("trust", source, 9 - source);
        for (int c = 0; c < 11; c++) d.ask("claim", c, (c + 1) / 2);
        return d;
    }

    private static void standing() {
        edge(0, "A set of CLAIMS DEFENDS a CLAIM, if each that STRIKES this is STRUCK by one of the set. STANDING, by ROUNDS: in "
            + "ROUND 1 those that none STRIKES; in each further ROUND those that the ones of the ROUNDS ahead DEFEND (and that "
            + "are not of them).");
        Desk d = chain();
        for (int a = 0; a < 11; a++) {
            for (int b = 0; b < 11; b++) d.due(b == a + 1 || b == a - 1 && a % 2 == 0 && a > 0 ? 1 : 0, "strikes", a, b);
            d.due(a % 2 == 0 ? 1 + a / 2 : NONE, "claimed", a, 2);
        }
        d.due(0x555, "sets", 3);
        // with the first one less trusted none stands
        d.ask("trust", 0, 8);
        d.due(0, "sets", 3);
        for (int c = 0; c < 11; c++) d.due(NONE, "claimed", c, 2);
        Desk free = with("a", "b");
        for (int c = 0; c < 12; c++) free.ask("claim", c % 2, c % 6);
        for (int c = 0; c < 12; c++) free.due(1, "claimed", c, 2);
        free.due(4095, "sets", 3);
        new Desk().due(0, "sets", 3);
        Desk one = with("a");
        one.ask("claim", 0, 5);
        one.due(1, "sets", 3);
        row(one, "claimed", new int[] {0, 5, 1, 2, 1, 1, NONE, 1}, 0);
        edge(0, "FALLEN: those that one that STANDS STRIKES; OPEN: all others.");
        Desk c = chain();
        for (int i = 0; i < 11; i++) c.due(i % 2 == 0 ? 2 : 0, "claimed", i, 3);
        c.ask("trust", 0, 8);
        for (int i = 0; i < 11; i++) c.due(1, "claimed", i, 3);
        Desk self = with("0", "a");
        self.ask("claim", 0, 0);
        self.due(1, "claimed", 0, 3);
        self.ask("claim", 1, 1);
        for (int i = 0; i < 2; i++) self.due(1, "claimed", i, 3);
        self.ask("trust", 0, 4);
        self.due(0, "claimed", 0, 3);
        self.due(2, "claimed", 1, 3);
    }

    private static Desk sixPairs() {
        Desk d = new Desk();
        for (int k = 0; k < 6; k++) d.say("" + (char) ('a' + k), "-" + (char) ('a' + k));
        for (int c = 0; c < 12; c++) d.ask("claim", c, c % 6);
        return d;
    }

    private static void choosing() {
        edge(0, "SOUND sets: of which none STRIKES one of it, and that DEFEND all their own; PREFERRED: SOUND ones that are no part "
            + "of a greater one; STABLE: sets of which none STRIKES one of it, and that STRIKE each other one.");
        Desk none = new Desk();
        row(none, "sets", new int[] {1, 1, 1, 0});
        for (int what = 1; what < 3; what++) row(none, "setOf", new int[] {0, UNKNOWN}, what);
        Desk self = with("0", "a");
        self.ask("claim", 0, 0);
        row(self, "sets", new int[] {1, 1, 0, 0});
        self.ask("claim", 1, 1);
        // each strikes the other one: what strikes itself is in no set, the other one is in one of its own
        row(self, "sets", new int[] {2, 1, 1, 0});
        row(self, "setOf", new int[] {2, UNKNOWN}, 1);
        self.ask("trust", 1, 4);
        row(self, "sets", new int[] {1, 1, 0, 0});
        row(self, "setOf", new int[] {0, UNKNOWN}, 1);
        row(self, "setOf", new int[] {UNKNOWN}, 2);
        Desk all = with("a");
        for (int c = 0; c < 12; c++) all.ask("claim", 0, 0);
        row(all, "sets", new int[] {4096, 1, 1, 4095});
        Desk six = sixPairs();
        row(six, "sets", new int[] {729, 64, 64, 0});
        for (int i = 0; i < 64; i++) {
            int set = 0;
            for (int k = 0; k < 6; k++) set |= 1 << 2 * k + (i >> k & 1);
            for (int what = 1; what < 3; what++) six.due(set, "setOf", what, i);
        }
        row(chain(), "sets", new int[] {64, 1, 1, 0x555});
        // two that strike each other, of which one is struck by what strikes itself
        Desk odd = with("a", "-a", "0");
        odd.ask("trust", 2, 4);
        odd.ask("trust", 1, 4);
        for (int c = 0; c < 3; c++) odd.ask("claim", c, c);
        row(odd, "sets", new int[] {2, 1, 1, 1});
        odd.ask("trust", 0, 4);
        row(odd, "sets", new int[] {3, 2, 2, 0});
        for (int what = 1; what < 3; what++) row(odd, "setOf", new int[] {1, 2, UNKNOWN}, what);
        odd.ask("trust", 2, 5);
        row(odd, "sets", new int[] {1, 1, 0, 0});
    }

    private static void dialogues() {
        edge(0, "A DIALOGUE about a CLAIM: it is said first; in turn each answers by a CLAIM that STRIKES the one said last; the one "
            + "who said it first may not say one twice; who can not answer has lost. Won (1), if the first can win whatever the "
            + "other says.");
        Desk d = chain();
        for (int c = 0; c < 11; c++) d.due(c % 2 == 0 ? 1 : 0, "claimed", c, 7);
        d.ask("trust", 0, 8);
        for (int c = 0; c < 11; c++) d.due(0, "claimed", c, 7);
        // the other one may say the same again and again: twelve that answer it are not enough
        Desk again = with("a", "-a");
        again.ask("claim", 1, 0);
        for (int c = 1; c < 12; c++) again.ask("claim", 0, 1);
        for (int c = 0; c < 12; c++) again.due(0, "claimed", c, 7);
        again.ask("trust", 1, 6);
        for (int c = 0; c < 12; c++) again.due(c == 0 ? 0 : 1, "claimed", c, 7);
        again.ask("trust", 0, 7);
        for (int c = 0; c < 12; c++) again.due(c == 0 ? 1 : 0, "claimed", c, 7);
        // what strikes itself is said again by the other one
        Desk self = with("0", "1");
        self.ask("claim", 0, 0);
        self.due(0, "claimed", 0, 7);
        self.ask("claim", 1, 1);
        for (int c = 0; c < 2; c++) self.due(0, "claimed", c, 7);
        self.ask("trust", 1, 6);
        for (int c = 0; c < 2; c++) self.due(c, "claimed", c, 7);
        edge(0, "ANSWER to a CLAIM: of those that STRIKE it and STAND the one of the least ROUND, of several the first.");
        Desk c = chain();
        for (int i = 0; i < 11; i++) c.due(i % 2 == 0 ? NONE : i - 1, "claimed", i, 6);
        c.ask("claim", c.say("-d&f"), 0);
        // one of round 1 that strikes 5 (as 4 does, of round 3) and 10
        c.due(11, "claimed", 5, 6);
        c.due(11, "claimed", 10, 6);
        c.due(8, "claimed", 9, 6);
        c.due(NONE, "claimed", 4, 6);
        Desk alike = with("a", "-a");
        for (int i = 0; i < 12; i++) alike.ask("claim", i == 5 ? 0 : 1, i == 5 ? 0 : 1 + i % 5);
        alike.ask("trust", 0, 4);
        alike.due(0, "claimed", 5, 6);
        for (int source = 1; source < 4; source++) alike.ask("trust", source, 3);
        alike.due(3, "claimed", 5, 6);
    }

    private static void claiming() {
        edge(30, "A CLAIM: its number.");
        Desk d = with("a");
        for (int c = 0; c < 12; c++) d.due(c, "claim", 0, c % 6);
        edge(30, "UNKNOWN: SENTENCE, SOURCE;");
        each(UNKNOWN, "claim", "7 0", "-1 0", "0 6", "0 -1", "L 0", "G 0", "0 L", "0 G");
        each(EdgeTests::full, UNKNOWN, "claim", "60 0", "0 6");
        edge(30, "FULL.");
        each(EdgeTests::full, FULL, "claim", "0 0", "59 5");
        edge(31, "Whether a CLAIM STRIKES another one: 1, 0 (of one itself, too: 1, if it is true in no WORLD).");
        int[][] strikes = {{0, 1, 1, 0}, {1, 0, 1, 0}, {0, 0, 1, 0}, {0, 0, 1, 0}};
        for (int a = 0; a < 4; a++) row(rich(), "strikes", strikes[a], a);
        edge(31, "UNKNOWN.");
        each(UNKNOWN, "strikes", "4 0", "0 4", "-1 0", "0 -1", "L 0", "G 0", "0 L", "0 G");
        each(EdgeTests::full, UNKNOWN, "strikes", "12 0", "0 12");
        edge(32, "Of a CLAIM: 0 SENTENCE, 1 SOURCE, 2 its ROUND, if it STANDS (NONE), 3: 2 it STANDS, 1 it is OPEN, 0 it is FALLEN, "
            + "4 in how many PREFERRED sets it is, 5 in how many STABLE ones, 6 ANSWER to it (NONE), 7 whether a DIALOGUE about it "
            + "is won (1, 0).");
        int[][] told = {{0, 0, NONE, 1, 1, 1, NONE, 0}, {2, 1, NONE, 1, 1, 1, NONE, 0}, {5, 2, NONE, 0, 0, 0, 3, 0},
            {1, 3, 1, 2, 2, 2, NONE, 1}};
        for (int c = 0; c < 4; c++) row(rich(), "claimed", told[c], c);
        Desk six = sixPairs();
        for (int c = 0; c < 12; c++) row(six, "claimed", new int[] {c, c % 6, NONE, 1, 32, 32, NONE, 0}, c);
        six.ask("trust", 1, 4);
        six.ask("trust", 4, 4);
        // sources 1 and 4 have claims 1, 4, 7, 10; they no longer strike 0, 5, 6, 11
        int[] sure = {0, 5, 6, 11}, lost = {1, 4, 7, 10};
        for (int what = 4; what < 6; what++) {
            for (int c : sure) six.due(4, "claimed", c, what);
            for (int c : lost) six.due(0, "claimed", c, what);
            for (int c : new int[] {2, 3, 8, 9}) six.due(2, "claimed", c, what);
        }
        edge(32, "UNKNOWN;");
        each(UNKNOWN, "claimed", "4 0", "-1 0", "4 8", "-1 -1", "L 0", "G 0");
        each(EdgeTests::full, UNKNOWN, "claimed", "12 0");
        edge(32, "OUTSIDE.");
        each(OUTSIDE, "claimed", "0 8", "0 -1", "0 L", "3 G");
        edge(33, "How many SOUND sets there are (what 0), PREFERRED (1), STABLE ones (2); STANDING CLAIMS as a set (3).");
        row(rich(), "sets", new int[] {6, 2, 2, 8});
        edge(33, "OUTSIDE.");
        each(OUTSIDE, "sets", "-1", "4", "L", "G");
        edge(34, "The i-th PREFERRED set (what 1), STABLE one (2).");
        for (int what = 1; what < 3; what++) row(rich(), "setOf", new int[] {9, 10, UNKNOWN}, what);
        edge(34, "UNKNOWN: i;");
        each(UNKNOWN, "setOf", "1 2", "1 -1", "2 2", "2 -1", "0 -1", "3 4096", "1 L", "2 G");
        each(EdgeTests::sixPairs, UNKNOWN, "setOf", "1 64", "2 64");
        edge(34, "OUTSIDE: what.");
        each(OUTSIDE, "setOf", "0 0", "3 0", "-1 0", "L 0", "G 0");
    }

    // ---- 5 merging

    private static void merging() {
        edge(0, "MERGING: the BOOK of a SOURCE: all its ENTRIES IN VIEW; SOURCES with ENTRIES IN VIEW that have a WORLD take part.");
        Desk d = with("a", "-a", "0", "1");
        d.due(0, "parts");
        for (int source = 0; source < 6; source++) {
            d.ask("hold", 0, source, source, 99, 0);
            d.due(1, "parts");
        }
        for (int t = 0; t < 6; t++) {
            d.ask("view", t, 99);
            d.due(t + 1, "parts");
        }
        d.ask("hold", 1, 0, 0, 99, 0);
        d.due(5, "parts");
        d.due(STATE, "far", 0, 0);
        d.ask("hold", 2, 5, 0, 99, 0);
        d.due(4, "parts");
        d.ask("hold", 3, 4, 0, 99, 0);
        d.due(4, "parts");
        d.ask("drop", 6, 0);
        d.due(5, "parts");
        distances();
        laws();
        edge(35, "How many SOURCES take part.");
        rich().due(2, "parts");
        full().due(6, "parts");
        edge(36, "How FAR a WORLD is from a SOURCE.");
        int[] fars = {1, 0, 1, 0}, others = {1, 1, 0, 0};
        for (int w = 0; w < 256; w += 51) {
            rich().due(fars[w & 3], "far", w, 0);
            rich().due(others[w & 3], "far", w, 1);
        }
        edge(36, "UNKNOWN: WORLD, SOURCE;");
        each(UNKNOWN, "far", "-1 0", "256 0", "0 -1", "0 6", "256 2", "L 0", "G 0", "0 L", "0 G");
        edge(36, "STATE: it does not take part.");
        each(STATE, "far", "0 2", "255 3", "0 5");
        each(Desk::new, STATE, "far", "0 0");
        edge(37, "How many WORLDS are MERGED by a LAW.");
        row(rich(), "merged", new int[] {64, 64, 64});
        edge(37, "OUTSIDE.");
        each(OUTSIDE, "merged", "-1", "3", "L", "G");
        edge(38, "The i-th WORLD of these.");
        for (int law = 0; law < 3; law++) {
            Desk r = rich();
            for (int i = 0; i < 64; i++) r.due(3 + 4 * i, "mergedWorld", law, i);
        }
        Desk none = new Desk();
        for (int i = 0; i < 256; i++) none.due(i, "mergedWorld", 1, i);
        edge(38, "OUTSIDE;");
        each(OUTSIDE, "mergedWorld", "-1 0", "3 0", "3 64", "3 -1", "L 0", "G G");
        edge(38, "UNKNOWN: i.");
        each(UNKNOWN, "mergedWorld", "0 64", "1 64", "2 64", "0 -1", "1 L", "2 G");
        each(Desk::new, UNKNOWN, "mergedWorld", "0 256", "1 256", "2 -1");
        edge(39, "Whether a SENTENCE FOLLOWS of these: 1, 0.");
        int[] agreed = {1, 1, 0, 1, 1, 0, 0};
        Desk r = rich();
        for (int s = 0; s < 7; s++) for (int law = 0; law < 3; law++) r.due(agreed[s], "agreed", s, law);
        Desk almost = with("1", "a|b|c|d|e|f|g|h", "-(a&b&c&d&e&f&g&h)");
        for (int law = 0; law < 3; law++) for (int s = 0; s < 3; s++) almost.due(s == 0 ? 1 : 0, "agreed", s, law);
        edge(39, "UNKNOWN;");
        each(UNKNOWN, "agreed", "7 0", "-1 0", "7 3", "L 0", "G -1");
        edge(39, "OUTSIDE.");
        each(OUTSIDE, "agreed", "0 3", "0 -1", "0 L", "0 G");
    }

    private static void distances() {
        edge(0, "How FAR a WORLD is from such a SOURCE: the least number of LETTERS that are other in a WORLD of its BOOK.");
        for (int source = 0; source < 3; source++) {
            Desk d = with("a&b&c&d&e&f&g&h", "-(a|b|c|d|e|f|g|h)");
            d.ask("make", 2, 0, 1);
            d.holds(0, 0, 1, 1, 2, 2);
            for (int w = 0; w < 256; w++) {
                int on = Integer.bitCount(w);
                d.due(source == 0 ? 8 - on : source == 1 ? on : Math.min(on, 8 - on), "far", w, source);
            }
        }
        Desk all = with("1", "a", "b").holds(0, 0, 1, 1, 2, 1);
        int[] far = {2, 1, 1, 0};
        for (int w = 0; w < 256; w += 3) {
            all.due(0, "far", w, 0);
            all.due(far[w & 3], "far", w, 1);
        }
    }

    private static void laws() {
        // of x letters of a, b and y of c, d: the first is 4 - x - y far, the second 2 + x - y, the third x + y
        Desk d = with("a&b&c&d", "-a&-b&c&d", "-a&-b&-c&-d", "1").holds(0, 0, 1, 1, 2, 2, 3, 3);
        edge(0, "By LAW 0: WORLDS with the least sum of TRUST times FAR;");
        d.due(16, "merged", 0);
        d.due(12, "mergedWorld", 0, 0);
        d.ask("trust", 0, 9);
        for (int source = 1; source < 3; source++) d.ask("trust", source, 1);
        d.due(16, "merged", 0);
        d.due(15, "mergedWorld", 0, 0);
        Desk two = with("a&b&c&d&e&f&g&h", "-(a|b|c|d|e|f|g|h)").holds(0, 0, 1, 1);
        for (int trust = 1; trust < 10; trust++) {
            two.ask("trust", 0, trust);
            two.ask("trust", 1, trust);
            two.due(256, "merged", 0);
            if (trust < 9) {
                two.ask("trust", 0, trust + 1);
                two.due(1, "merged", 0);
                two.due(255, "mergedWorld", 0, 0);
            }
        }
        two.ask("trust", 0, 1);
        two.due(0, "mergedWorld", 0, 0);
        edge(0, "1: with the least greatest FAR;");
        two.due(70, "merged", 1);
        two.due(15, "mergedWorld", 1, 0);
        two.due(240, "mergedWorld", 1, 69);
        d.due(80, "merged", 1);
        row(d, "mergedWorld", new int[] {5, 6, 9, 10, 12, 21}, 1);
        edge(0, "2: of which FARS put in order, the greatest first, are the first row (the least number first).");
        d.due(16, "merged", 2);
        row(d, "mergedWorld", new int[] {12, 28, 44}, 2);
        two.due(70, "merged", 2);
        two.ask("hold", two.say("a"), 2, 0, 99, 0);
        two.due(70, "merged", 1);
        two.due(35, "merged", 2);
        two.due(15, "mergedWorld", 2, 0);
        two.due(23, "mergedWorld", 2, 1);
        Desk six = with("a&b&c&d&e&f&g&h", "-(a|b|c|d|e|f|g|h)");
        for (int source = 0; source < 6; source++) six.ask("hold", source == 5 ? 1 : 0, source, 0, 99, 0);
        // five that are 8 far are less near than one, but all are nearest in the middle
        six.due(70, "merged", 2);
        six.ask("drop", 5, 0);
        six.due(1, "merged", 2);
        six.due(255, "mergedWorld", 2, 0);
        edge(0, "(If none takes part: all WORLDS.)");
        Desk none = with("0").holds(0, 0, 0, 5);
        row(none, "merged", new int[] {256, 256, 256});
        row(new Desk(), "merged", new int[] {256, 256, 256});
        none.due(255, "mergedWorld", 2, 255);
    }

    // ---- 6 holds, sheets

    private static void holds() {
        edge(0, "HOLDS 0 .. 5 have nothing (at first), or an ENTRY, a RULE.");
        Desk d = full();
        for (int k = 0; k < 6; k++) {
            d.due(NULL, "as", k, 0);
            d.due(1, "take", k, 0, 11);
            d.due(11, "as", k, 0);
            d.due(1, "take", k, 1, 9);
            d.due(CAST, "as", k, 0);
            d.due(9, "as", k, 1);
        }
        edge(40, "A HOLD has an ENTRY (what 0), a RULE (1): 1.");
        d.due(1, "take", 0, 0, 0);
        d.due(1, "take", 1, 0, 0);
        for (int k = 0; k < 2; k++) d.due(0, "as", k, 0);
        d.due(9, "as", 2, 1);
        edge(40, "UNKNOWN: HOLD;");
        each(UNKNOWN, "take", "6 0 0", "-1 0 0", "6 2 9", "L 0 0", "G 1 0");
        edge(40, "OUTSIDE;");
        each(OUTSIDE, "take", "0 2 0", "0 -1 0", "0 2 9", "5 L 0", "4 G 0");
        edge(40, "UNKNOWN: there is no such.");
        each(UNKNOWN, "take", "0 0 4", "0 0 -1", "0 1 3", "4 1 -1", "0 0 L", "0 0 G", "0 1 L", "5 1 G");
        each(EdgeTests::full, UNKNOWN, "take", "0 0 12", "0 1 10");
        each(Desk::new, UNKNOWN, "take", "0 0 0", "0 1 0");
        edge(41, "A HOLD has nothing: 1; 0: it had nothing.");
        Desk r = rich();
        for (int k = 0; k < 6; k++) {
            r.due(k < 4 ? 1 : 0, "loose", k);
            r.due(0, "loose", k);
            r.due(NULL, "as", k, 0);
        }
        r.due(1, "take", 0, 1, 2);
        r.due(2, "as", 0, 3);
        edge(41, "UNKNOWN.");
        each(UNKNOWN, "loose", "6", "-1", "L", "G");
        taking();
        telling();
        showing();
    }

    private static void taking() {
        edge(42, "What a HOLD has, taken as 0 an ENTRY, 1 a RULE, 2 a BARRED, 3 a LOOSE one: its number.");
        int[][] due = {{1, CAST, CAST, CAST}, {CAST, 0, CAST, CAST}, {CAST, 1, 1, CAST}, {CAST, 2, 2, 2},
            {NULL, NULL, NULL, NULL}, {NULL, NULL, NULL, NULL}};
        Desk d = rich();
        for (int k = 0; k < 6; k++) {
            for (int kind = 0; kind < 4; kind++) {
                d.due(due[k][kind], "as", k, kind);
                d.due(due[k][kind] < 0 ? -10 - due[k][kind] : 0, "fault");
            }
        }
        edge(42, "UNKNOWN;");
        each(UNKNOWN, "as", "6 0", "-1 0", "6 4", "-1 -1", "L 0", "G 0");
        edge(42, "OUTSIDE;");
        each(OUTSIDE, "as", "0 4", "0 -1", "4 4", "5 -1", "0 L", "0 G");
        edge(42, "CAST (nothing is no CAST);");
        faults(2, "as", "0 1", "0 2", "0 3", "1 0", "1 2", "1 3", "2 0", "2 3", "3 0");
        faults(1, "as", "4 3", "5 1");
        edge(42, "NULL.");
        faults(1, "as", "4 0", "4 1", "4 2", "5 3");
    }

    private static void telling() {
        edge(0, "TELLING by bodies that leave their number in TRACE (an int that wraps, 0 at first, becomes 31 times it and the "
            + "number) as they begin:");
        Desk d = rich();
        int trace = 1;
        d.due(trace, "trace");
        for (int i = 0; i < 100; i++) {
            d.due(-2, "tell", 3);
            trace = 31 * (31 * trace + 4) + 2;
            d.due(trace, "trace");
        }
        new Desk().due(0, "trace");
        edge(0, "ENTRY (1): its SENTENCE's number. RULE (2): its THEN's number. BARRED (3): what RULE's gives, and its UNLESS's "
            + "number. LOOSE (4): what RULE's gives (BARRED's left out), its contrary, less 1.");
        int[] told = {1, 6, 9, -2}, marks = {1, 2, 31 * 3 + 2, 31 * 4 + 2};
        for (int k = 0; k < 4; k++) {
            Desk r = rich();
            r.due(told[k], "tell", k);
            r.due((k < 2 ? 31 : 31 * 31) + marks[k], "trace");
        }
        edge(43, "TELLING of what a HOLD has.");
        Desk all = full();
        int[][] rules = {{0, 59, 59}, {1, 59, 59}, {2, 59, 59}, {2, 0, 0}, {1, 0, 0}, {0, 0, 0}};
        Desk ends = with("a", "1");
        for (int s = 2; s < 60; s++) ends.ask("make", 0, 0, 0);
        int[] gives = {59, 118, -60, -1, 0, 0};
        for (int i = 0; i < rules.length; i++) {
            ends.ask("rule", rules[i][0], 1, rules[i][1], rules[i][2], 0);
            ends.ask("take", i, 1, i);
            ends.due(gives[i], "tell", i);
            ends.due(0, "fault");
        }
        all.ask("take", 0, 0, 11);
        all.due(1, "tell", 0);
        edge(43, "UNKNOWN;");
        each(UNKNOWN, "tell", "6", "-1", "L", "G");
        edge(43, "NULL.");
        faults(1, "tell", "4", "5");
        edge(43, "(TELLING may be below 0: fault() tells.)");
        for (int then = 0; then < 14; then++) {
            ends.ask("rule", 2, 1, then, 0, 0);
            if (then > 3) continue;
            ends.ask("take", 0, 1, 6 + then);
            ends.ask("put", 9, 0, 0);
            ends.due(-then - 1, "tell", 0);
            ends.due(0, "fault");
        }
        for (int then = 10; then < 14; then++) {
            Desk like = with("a");
            for (int s = 1; s < 14; s++) like.ask("make", 0, 0, 0);
            like.ask("rule", 2, 0, then, 0, 0);
            like.ask("take", 0, 1, 0);
            // as a fault would be told; but it is none
            like.due(-11 - (then - 10), "tell", 0);
            like.due(0, "fault");
            like.due(31 * 4 + 2, "trace");
        }
    }

    private static void showing() {
        edge(0, "SHOWN by a lent body (5): the number of that RULE; BARRED ones have their own (6): 100, and what the lent one gives; "
            + "LOOSE ones that of BARRED, and 1000 (7).");
        Desk d = rich();
        int[] shown = {0, 101, 1102};
        int[][] marks = {{5}, {6, 5}, {7, 6, 5}};
        int trace = 1;
        for (int round = 0; round < 4; round++) {
            for (int r = 0; r < 3; r++) {
                d.due(shown[r], "show", 1 + r);
                for (int mark : marks[r]) trace = 31 * trace + mark;
                d.due(trace, "trace");
                d.due(0, "fault");
            }
        }
        edge(44, "How a RULE that a HOLD has is SHOWN.");
        for (int last = 0; last < 3; last++) {
            Desk ten = with("a");
            for (int r = 0; r < 10; r++) ten.ask("rule", r == 9 ? last : 0, 0, 0, 0, 0);
            ten.ask("take", 5, 1, 9);
            ten.due(new int[] {9, 109, 1109}[last], "show", 5);
        }
        edge(44, "UNKNOWN;");
        each(UNKNOWN, "show", "6", "-1", "L", "G");
        edge(44, "CAST: it is none;");
        faults(2, "show", "0");
        edge(44, "NULL.");
        faults(1, "show", "4", "5");
    }

    private static void sheets() {
        edge(0, "SHEETS 0 .. 3 have nothing (at first), or a row of 0 .. 60 numbers (0 at first) of a LANE: 0 bytes, 1 shorts, 2 ints; "
            + "what comes to a cell of it is cut to its LANE.");
        int[] values = {0, -1, 127, 128, -128, -129, 255, 256, 32767, 32768, -32768, -32769, 65535, 65536, GREATEST, LEAST};
        for (int k = 0; k < 4; k++) {
            Desk d = new Desk();
            for (int lane = 0; lane < 3; lane++) {
                d.due(1, "sheet", k, lane, 60);
                d.due(0, "cell", k, 0, lane);
                d.due(0, "cell", k, 59, lane);
                for (int i = 0; i < values.length; i++) {
                    d.due(1, "put", k, i, values[i]);
                    d.due(lane == 0 ? (byte) values[i] : lane == 1 ? (short) values[i] : values[i], "cell", k, i, lane);
                }
                d.due(1, "sheet", k, lane, 0);
                d.due(INDEX, "put", k, 0, 1);
            }
        }
        edge(45, "A SHEET gets a new row: 1.");
        Desk d = new Desk();
        for (int i = 0; i < 3; i++) {
            d.due(1, "sheet", 0, i, 60);
            d.due(1, "put", 0, 59, 7);
            d.due(1, "sheet", 0, i, 60);
            d.due(0, "cell", 0, 59, i);
            d.due(1, "put", 0, 1, 7);
            d.due(1, "sheet", 0, i, 1);
            d.due(LOST, "cell", 0, 1, i);
            d.due(1, "sheet", 0, i, 2);
            d.due(0, "cell", 0, 1, i);
        }
        edge(45, "UNKNOWN;");
        each(UNKNOWN, "sheet", "4 0 1", "-1 0 1", "4 3 -1", "L 0 0", "G 0 0");
        edge(45, "OUTSIDE: lane, n above 60;");
        each(OUTSIDE, "sheet", "0 3 1", "0 -1 1", "0 0 61", "0 3 -1", "0 L 0", "0 G L", "1 1 G", "3 0 61");
        edge(45, "SIZE.");
        faults(4, "sheet", "0 0 -1", "3 2 -1", "1 1 L");
        edge(46, "A SHEET has nothing: 1; 0: it had nothing.");
        Desk r = rich();
        for (int k = 0; k < 4; k++) {
            r.due(k < 3 ? 1 : 0, "lose", k);
            r.due(0, "lose", k);
            r.due(NULL, "put", k, 0, 0);
        }
        r.due(1, "sheet", 1, 0, 0);
        r.due(1, "lose", 1);
        r.due(1, "sheet", 0, 0, 5);
        r.due(0, "cell", 0, 0, 0);
        edge(46, "UNKNOWN.");
        each(UNKNOWN, "lose", "4", "-1", "L", "G");
        cells();
        copies();
    }

    private static void cells() {
        edge(47, "Cell i of a SHEET becomes v: 1.");
        Desk d = rich();
        int[] last = {4, 2, 1};
        for (int k = 0; k < 3; k++) {
            for (int i : new int[] {0, last[k]}) {
                d.due(1, "put", k, i, 5 + k);
                d.due(0, "fault");
                d.due(5 + k, "cell", k, i, k);
            }
        }
        d.due('>', "cell", 0, 1, 0);
        edge(47, "UNKNOWN;");
        each(UNKNOWN, "put", "4 0 0", "-1 0 0", "4 -1 0", "L 0 0", "G 0 0");
        edge(47, "NULL;");
        faults(1, "put", "3 0 0", "3 -1 0", "3 60 0");
        edge(47, "INDEX.");
        faults(3, "put", "0 -1 0", "0 5 0", "0 60 0", "1 3 0", "2 2 0", "2 L 0", "2 G 0");
        edge(48, "Cell i of what a SHEET has, taken as a row of a LANE.");
        int[][] first = {{'a', '>', 'b', '1', '2'}, {'-', 'b', ')'}, {'c', 'd'}};
        Desk r = rich();
        for (int k = 0; k < 3; k++) {
            for (int i = 0; i < first[k].length; i++) {
                r.due(first[k][i], "cell", k, i, k);
                r.due(0, "fault");
            }
        }
        edge(48, "LOST: UNKNOWN,");
        refusedCells("4 0 0", "-1 0 0", "4 -1 3", "L 0 0", "G 0 0");
        edge(48, "OUTSIDE: lane;");
        refusedCells("0 0 3", "0 0 -1", "0 9 3", "3 0 3", "0 0 L", "0 0 G");
        edge(48, "FAULTS CAST (nothing is no CAST),");
        faults(2, "cell", "0 0 1", "0 0 2", "1 0 0", "2 -1 1", "0 9 1");
        faults(1, "cell", "3 0 0", "3 0 1", "3 0 2");
        edge(48, "NULL,");
        faults(1, "cell", "3 0 0", "3 -1 0", "3 99 2");
        edge(48, "INDEX.");
        faults(3, "cell", "0 -1 0", "0 5 0", "1 3 1", "2 2 2", "2 L 2", "2 G 2");
    }

    private static void refusedCells(String... rows) {
        for (String row : rows) refused(EdgeTests::rich, LOST, 0, "cell", numbers(row));
    }

    private static void copies() {
        edge(49, "n cells of a SHEET from i on go to another one (perhaps the same) from j on, as they were: n.");
        int[][] moves = {{0, 0, 5}, {5, 5, 0}, {0, 5, 0}, {0, 1, 4}, {1, 0, 4}, {0, 2, 3}, {2, 0, 3}, {4, 0, 1}, {0, 4, 1}, {1, 2, 2}};
        for (int[] move : moves) {
            Desk d = rich();
            int[] row = {'a', '>', 'b', '1', '2'}, was = row.clone();
            for (int i = 0; i < move[2]; i++) row[move[1] + i] = was[move[0] + i];
            d.due(move[2], "copy", 0, move[0], 0, move[1], move[2]);
            d.due(0, "fault");
            for (int i = 0; i < 5; i++) d.due(row[i], "cell", 0, i, 0);
        }
        for (int lane = 0; lane < 3; lane++) {
            Desk d = new Desk();
            d.write(lane, lane, "abc");
            d.ask("sheet", 3, lane, 2);
            d.due(2, "copy", lane, 1, 3, 0, 2);
            d.due('b', "cell", 3, 0, lane);
            d.due('c', "cell", 3, 1, lane);
            d.ask("put", 3, 0, 'x');
            d.due('b', "cell", lane, 1, lane);
            d.due(0, "copy", lane, 3, 3, 2, 0);
        }
        edge(49, "UNKNOWN;");
        each(UNKNOWN, "copy", "-1 0 0 0 1", "4 0 0 0 1", "0 0 4 0 1", "0 0 -1 0 1", "3 -1 4 -1 -1", "4 0 3 0 0", "L 0 0 0 0",
            "0 0 G 0 0");
        edge(49, "FAULTS NULL (the first, the other),");
        faults(1, "copy", "3 0 0 0 1", "0 0 3 0 1", "3 -1 3 -1 -1", "0 9 3 9 9", "3 0 1 0 0");
        edge(49, "CAST (unlike LANES),");
        faults(2, "copy", "0 0 1 0 1", "1 0 0 0 1", "0 0 2 0 0", "2 -1 1 -1 -1", "1 9 2 9 9");
        edge(49, "INDEX: i, j, n below 0 or beyond.");
        faults(3, "copy", "0 -1 0 0 1", "0 0 0 -1 1", "0 0 0 0 -1", "0 -1 0 0 0", "0 0 0 -1 0", "0 0 0 0 6", "0 5 0 0 1",
            "0 0 0 5 1", "0 6 0 0 0", "0 0 0 6 0", "0 3 0 0 3", "0 0 0 3 3", "0 G 0 0 1", "0 0 0 G 1", "0 0 0 0 G", "0 G 0 G G",
            "0 1 0 1 G", "0 L 0 0 1", "0 0 0 L 1", "0 0 0 0 L", "0 L 0 L L", "0 G 0 G L");
    }

    private static void many() {
        edge(50, "TRACE.");
        Desk d = rich();
        d.due(1, "trace");
        int trace = 1;
        int[][] bodies = {{1}, {2}, {3, 2}, {4, 2}};
        for (int k = 0; k < 4; k++) {
            d.ask("tell", k);
            for (int body : bodies[k]) trace = 31 * trace + body;
            d.due(trace, "trace");
            for (int no : new int[] {4, 6, -1}) {
                d.ask("tell", no);
                d.ask("show", no);
                d.ask("show", 0);
            }
            d.due(trace, "trace");
        }
        edge(51, "The FAULT of the latest call that names one: 0: it came to none, or was refused (0 ahead of any).");
        Desk f = rich();
        new Desk().due(0, "fault");
        rich().due(3, "fault");
        full().due(3, "fault");
        String[] done = {"read 0 0 0 1", "as 0 0", "tell 0", "show 1", "sheet 2 0 3", "put 0 0 99", "cell 0 0 0", "copy 0 0 0 1 1"};
        String[] refused = {"read 4 0 0 1", "as 6 0", "tell -1", "show 6", "sheet 0 0 61", "put 4 0 0", "cell 0 0 3", "copy 0 0 4 0 1"};
        String[] texts = {"read 0 0 3 2"};
        String[][] without = {done, refused, texts};
        for (String[] calls : without) {
            for (String call : calls) {
                f.due(INDEX, "put", 0, -1, 0);
                f.due(3, "fault");
                int space = call.indexOf(' ');
                f.ask(call.substring(0, space), numbers(call.substring(space + 1)));
                f.due(0, "fault");
            }
        }
        others();
        edge(52, "How many: 0 SENTENCES, 1 ENTRIES, 2 of them IN VIEW, 3 RULES, 4 CLAIMS, 5 t, 6 k of THE VIEW, 7 WORLDS of all ENTRIES "
            + "IN VIEW, 8 ENTRIES IN VIEW as a set.");
        row(rich(), "many", new int[] {7, 4, 2, 3, 4, 10, 50, 64, 3});
        row(full(), "many", new int[] {60, 12, 12, 10, 12, 0, 99, 128, 4095});
        row(pairs(), "many", new int[] {12, 12, 12, 0, 0, 0, 99, 0, 4095});
        edge(52, "OUTSIDE.");
        each(OUTSIDE, "many", "-1", "9", "L", "G");
    }

    // Calls that name no fault leave the one that was, done or refused.
    private static void others() {
        String[] calls = {"make 0 0 0", "worlds 0", "truth 0 0", "compare 0 1", "trust 0 5", "hold 0 0 0 99 0", "view 10 50",
            "entry 0 8", "drop 0 -9", "weight 1", "together 1", "reasons 0 0", "reason 0 0 0", "harmonies 0", "harmony 0 0",
            "held 0 1", "cuts 0", "cutOf 0 0", "least 0", "giveUp 0", "news 0 0", "postulate 0 3", "rule 0 0 0 0 0", "ruled 0 7",
            "extensions 0", "extension 0 0", "concluded 0 0", "claim 0 0", "strikes 0 0", "claimed 0 7", "sets 0", "setOf 1 0",
            "parts", "far 0 0", "merged 2", "mergedWorld 0 0", "agreed 0 0", "take 4 0 0", "loose 4", "lose 3", "trace", "many 0"};
        Desk d = rich();
        Set<String> names = new java.util.TreeSet<>();
        for (String call : calls) {
            String[] parts = call.split(" ");
            names.add(parts[0]);
            int[] given = parts.length == 1 ? new int[0] : numbers(call.substring(parts[0].length()));
            long answer = d.ask(parts[0], given);
            if (answer < 0 && answer != NONE) fail(call + " was refused");
            d.due(3, "fault");
        }
        for (Method one : ReasonDesk.class.getDeclaredMethods()) {
            String name = one.getName();
            if (!java.lang.reflect.Modifier.isPublic(one.getModifiers()) || name.equals("fault")) continue;
            if (names.contains(name) == FAULTY.contains(name)) fail("not tried: " + name);
        }
    }

    private static void lastCall() {
        edge(0, "An object is used for at most 512 calls after it has been made;");
        Desk d = rich();
        int trace = 1;
        while (d.calls < 510) {
            d.due(1102, "show", 3);
            trace = 31 * (31 * (31 * trace + 7) + 6) + 5;
        }
        d.due(trace, "trace");
        d.due(64, "many", 7);
        if (d.calls != 512) fail("the last call was the one of number " + d.calls);
    }

    // ---- whether each sentence of the document is under an edge

    private static String plain(String text) {
        return text.replaceAll("```(text|java)?|==== \\d ", " ").replaceAll("\\s+", " ");
    }

    private static String between(String text, String from, String to) {
        int start = text.indexOf(from);
        int end = start < 0 ? -1 : text.indexOf(to, start + from.length());
        return start < 0 ? "" : text.substring(start + from.length(), end < 0 ? text.length() : end);
    }

    private static void lookUp(Path path) throws Exception {
        String doc = plain(Files.readString(path));
        int seen = 0;
        for (int promise = 0; promise <= 52; promise++) {
            String text = between(doc, "## Terms ", "Ahead of the calls `read`");
            if (promise > 0) {
                text = between(doc, "## Promise " + promise + ": ", " ## ");
                text = text.substring(Math.max(0, text.indexOf("`: ") + 2));
            }
            seen += text.length();
            boolean[] tested = new boolean[text.length()];
            for (int i = 0; i < edges.size() - 1; i++)
                if (promises.get(i) == promise) find(edges.get(i), promise, text, tested, doc);
            untested(promise, text, tested);
        }
        if (seen < 10000) bare("the document is not as it was: " + seen);
    }

    private static void bare(String what) {
        wrong++;
        System.out.println(what);
    }

    // Ticks off the words of an edge, where they are first found and not ticked off yet.
    private static void find(String edge, int promise, String text, boolean[] tested, String doc) {
        for (int at = text.indexOf(edge); at >= 0; at = text.indexOf(edge, at + 1)) {
            if (tested[at]) continue;
            Arrays.fill(tested, at, at + edge.length(), true);
            return;
        }
        if (promise > 0 || !doc.contains(edge)) bare("not in promise " + promise + ": " + edge);
    }

    private static void untested(int promise, String text, boolean[] tested) {
        StringBuilder left = new StringBuilder();
        for (int i = 0; i < text.length(); i++) {
            if (!tested[i]) left.append(text.charAt(i));
            else if (left.length() > 0 && left.charAt(left.length() - 1) != '~') left.append('~');
        }
        for (String part : left.toString().split("~"))
            if (part.matches(".*[A-Za-z0-9].*")) bare("promise " + promise + ", nothing tests: " + part);
    }
}
