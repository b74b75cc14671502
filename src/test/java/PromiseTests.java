// What the document promises, promise by promise: ordinary calls, edges, wrong calls.
public final class PromiseTests {
    private static final int UNKNOWN = -1, OUTSIDE = -2, STATE = -3, FULL = -4, NONE = -9;
    private static final int NULL = -11, CAST = -12, INDEX = -13, SIZE = -14;
    private static final int LEAST = Integer.MIN_VALUE, GREATEST = Integer.MAX_VALUE;
    private static final int[] asked = new int[53];
    private static int promise;
    private static int wrong;

    public static void main(String[] arguments) {
        constants();
        sentences();
        texts();
        book();
        views();
        reasons();
        harmonies();
        givingUp();
        news();
        rules();
        extensions();
        claims();
        dialogues();
        merging();
        holds();
        sheets();
        many();
        full();
        for (int i = 1; i < asked.length; i++) if (asked[i] < 3) fail("promise " + i + " is hardly tested");
        System.out.println(wrong == 0 ? "all promises hold" : wrong + " answers are not as promised");
        if (wrong != 0) System.exit(1);
    }

    private static void fail(String line) {
        wrong++;
        System.out.println(line);
    }

    private static void due(String call, long got, long want) {
        asked[promise]++;
        if (got != want) fail("promise " + promise + ": " + call + " answered " + got + ", due is " + want);
    }

    // Reads a text by sheet 3.
    private static int say(ReasonDesk x, String text) {
        x.sheet(3, 0, text.length());
        for (int i = 0; i < text.length(); i++) x.put(3, i, text.charAt(i));
        return x.read(3, 0, 0, text.length());
    }

    private static void say(ReasonDesk x, String... texts) {
        for (int i = 0; i < texts.length; i++) {
            int number = say(x, texts[i]);
            if (number != x.many(0) - 1) fail("could not read " + texts[i]);
        }
    }

    private static void always(ReasonDesk x, int s, int source) {
        if (x.hold(s, source, 0, 99, 0) < 0) fail("could not hold " + s);
    }

    private static void constants() {
        promise = 1;
        due("UNKNOWN", ReasonDesk.UNKNOWN, -1);
        due("OUTSIDE", ReasonDesk.OUTSIDE, -2);
        due("STATE", ReasonDesk.STATE, -3);
        due("FULL", ReasonDesk.FULL, -4);
        due("NONE", ReasonDesk.NONE, -9);
        due("LOST", ReasonDesk.LOST, Long.MIN_VALUE);
        ReasonDesk x = new ReasonDesk();
        int[] first = {0, 0, 0, 0, 0, 0, 99, 256, 0};
        for (int what = 0; what < first.length; what++) due("many(" + what + ")", x.many(what), first[what]);
        for (int k = 0; k < 6; k++) due("loose", x.loose(k), 0);
        for (int k = 0; k < 4; k++) due("lose", x.lose(k), 0);
        due("worlds(0)", x.worlds(0), UNKNOWN);
        due("entry(0, 0)", x.entry(0, 0), UNKNOWN);
        due("ruled(0, 0)", x.ruled(0, 0), UNKNOWN);
        due("claimed(0, 0)", x.claimed(0, 0), UNKNOWN);
        due("trace()", x.trace(), 0);
        due("fault()", x.fault(), 0);
        for (int source = 0; source < 6; source++) due("trust", x.trust(source, 5), 5);
        // two desks share nothing
        say(x, "a");
        due("many(0) of another one", new ReasonDesk().many(0), 0);
    }

    private static void sentences() {
        ReasonDesk x = new ReasonDesk();
        say(x, "a", "b", "a&b", "1", "0", "-a", "-b", "h");
        promise = 3;
        due("make(0, 0, -1)", x.make(0, 0, -1), 8);
        due("alike", x.compare(8, 5), 3);
        due("make(1, 0, 1)", x.make(1, 0, 1), 9);
        due("alike", x.compare(9, 2), 3);
        due("make(2, 0, 1)", x.make(2, 0, 1), 10);
        due("worlds", x.worlds(10), 192);
        due("make(3, 0, 1)", x.make(3, 0, 1), 11);
        due("truth", x.truth(11, 1), 0);
        due("truth", x.truth(11, 2), 1);
        due("worlds", x.worlds(11), 192);
        due("make(4, 0, 1)", x.make(4, 0, 1), 12);
        due("truth", x.truth(12, 3), 1);
        due("truth", x.truth(12, 0), 1);
        due("truth", x.truth(12, 1), 0);
        due("worlds", x.worlds(12), 128);
        due("make(-1, 0, 0)", x.make(-1, 0, 0), OUTSIDE);
        due("make(5, 99, 0)", x.make(5, 99, 0), OUTSIDE);
        due("make(0, 13, 0)", x.make(0, 13, 0), UNKNOWN);
        due("make(0, -1, 0)", x.make(0, -1, 0), UNKNOWN);
        due("make(1, 0, 13)", x.make(1, 0, 13), UNKNOWN);
        due("make(4, 0, LEAST)", x.make(4, 0, LEAST), UNKNOWN);
        due("many(0)", x.many(0), 13);
        promise = 4;
        int[] worlds = {128, 128, 64, 256, 0, 128, 128, 128};
        for (int s = 0; s < worlds.length; s++) due("worlds(" + s + ")", x.worlds(s), worlds[s]);
        due("worlds(13)", x.worlds(13), UNKNOWN);
        due("worlds(-1)", x.worlds(-1), UNKNOWN);
        due("worlds(LEAST)", x.worlds(LEAST), UNKNOWN);
        due("worlds(GREATEST)", x.worlds(GREATEST), UNKNOWN);
        promise = 5;
        due("truth(0, 0)", x.truth(0, 0), 0);
        due("truth(0, 255)", x.truth(0, 255), 1);
        due("truth(1, 1)", x.truth(1, 1), 0);
        due("truth(1, 2)", x.truth(1, 2), 1);
        due("truth(7, 127)", x.truth(7, 127), 0);
        due("truth(7, 128)", x.truth(7, 128), 1);
        due("truth(0, 256)", x.truth(0, 256), UNKNOWN);
        due("truth(0, -1)", x.truth(0, -1), UNKNOWN);
        due("truth(13, 0)", x.truth(13, 0), UNKNOWN);
        promise = 6;
        due("compare(2, 0)", x.compare(2, 0), 1);
        due("compare(0, 2)", x.compare(0, 2), 2);
        due("compare(0, 0)", x.compare(0, 0), 3);
        due("compare(0, 5)", x.compare(0, 5), 4);
        due("compare(0, 1)", x.compare(0, 1), 0);
        due("compare(4, 0): what is never true", x.compare(4, 0), 1);
        due("compare(0, 4)", x.compare(0, 4), 2);
        due("compare(4, 4)", x.compare(4, 4), 3);
        due("compare(4, 3)", x.compare(4, 3), 1);
        due("compare(13, 0)", x.compare(13, 0), UNKNOWN);
        due("compare(0, -1)", x.compare(0, -1), UNKNOWN);
        promise = 7;
        due("trust(0, 9)", x.trust(0, 9), 5);
        due("trust(0, 1)", x.trust(0, 1), 9);
        due("trust(0, 10)", x.trust(0, 10), OUTSIDE);
        due("trust(0, 0)", x.trust(0, 0), OUTSIDE);
        due("trust(0, 5) after refusals", x.trust(0, 5), 1);
        due("trust(6, 0)", x.trust(6, 0), UNKNOWN);
        due("trust(-1, 5)", x.trust(-1, 5), UNKNOWN);
        due("trust(5, 2)", x.trust(5, 2), 5);
    }

    private static void texts() {
        promise = 2;
        ReasonDesk x = new ReasonDesk();
        say(x, "a", "b", "c");
        // what each is true in, written out otherwise by make()
        say(x, "a>b>c");
        due("last if first", x.compare(3, x.make(3, 0, x.make(3, 1, 2))), 3);
        say(x, "a|b&c");
        due("and before or", x.compare(6, x.make(2, 0, x.make(1, 1, 2))), 3);
        say(x, "a|b>c");
        due("or before if", x.compare(9, x.make(3, x.make(2, 0, 1), 2)), 3);
        say(x, "a>b|c");
        due("or before if", x.compare(12, x.make(3, 0, x.make(2, 1, 2))), 3);
        say(x, "-a&b");
        due("not before and", x.compare(15, x.make(1, x.make(0, 0, 0), 1)), 3);
        say(x, "-(a&b)");
        due("not a bracket", x.compare(18, x.make(0, x.make(1, 0, 1), 0)), 3);
        say(x, "--a");
        due("not not", x.compare(21, 0), 3);
        say(x, "(a>b)>c");
        due("bracket first", x.compare(22, x.make(3, x.make(3, 0, 1), 2)), 3);
        say(x, "-(a|-(b&-c))>0");
        due("worlds of a deep one", x.worlds(25), 256 - 32);
        say(x, "a&b&c|1&0");
        due("worlds", x.worlds(26), 32);
        String[] faults = {"", ">", "a>", "a>>b", "a&", "(a", "(a))", "()", "a)", "ab", "a-b", "-", "--", "i", "`", "2", "a 1",
            "((a)", "a&|b", "(a>b)c", "A", "a|(b&", "a|(b&)", "1(", "-)"};
        int[] places = {0, 0, 2, 2, 2, 2, 3, 1, 1, 1, 1, 1, 2, 0, 0, 0, 1,
            4, 2, 5, 0, 5, 5, 1, 1};
        for (int i = 0; i < faults.length; i++) due("read of '" + faults[i] + "'", say(x, faults[i]), -100 - places[i]);
        due("many(0)", x.many(0), 27);
        due("fault() after a text that is none", x.fault(), 0);
        x = new ReasonDesk();
        StringBuilder deep = new StringBuilder();
        for (int i = 0; i < 29; i++) deep.append('(');
        deep.append("-a");
        for (int i = 0; i < 29; i++) deep.append(')');
        due("29 brackets", say(x, deep.toString()), 0);
        due("its worlds", x.truth(0, 0), 1);
        StringBuilder ifs = new StringBuilder("a");
        for (int i = 0; i < 28; i++) ifs.append(">a");
        due("29 ifs", say(x, ifs.append(">0").toString()), 1);
        due("their worlds", x.compare(1, 0), 3);
        due("60 nots too few", say(x, new String(new char[60]).replace('\0', '-')), -160);
        due("60 brackets", say(x, new String(new char[60]).replace('\0', '(')), -160);
        readings();
        full60();
    }

    private static void readings() {
        ReasonDesk x = new ReasonDesk();
        due("read of nothing", x.read(0, 0, 0, 1), NULL);
        due("fault()", x.fault(), 1);
        due("read of nothing, n below 0", x.read(0, 2, -1, -1), NULL);
        x.sheet(0, 1, 4);
        x.put(0, 1, 'a');
        x.put(0, 2, '&');
        x.put(0, 3, 'b');
        due("read as bytes", x.read(0, 0, 1, 3), CAST);
        due("fault()", x.fault(), 2);
        due("read as ints", x.read(0, 2, 1, -1), CAST);
        due("n below 0", x.read(0, 1, 9, -1), SIZE);
        due("fault()", x.fault(), 4);
        due("n LEAST", x.read(0, 1, 0, LEAST), SIZE);
        due("i below 0", x.read(0, 1, -1, 1), INDEX);
        due("fault()", x.fault(), 3);
        due("beyond", x.read(0, 1, 2, 3), INDEX);
        due("far beyond", x.read(0, 1, GREATEST, GREATEST), INDEX);
        due("i beyond", x.read(0, 1, 5, 0), INDEX);
        due("nothing at the end", x.read(0, 1, 4, 0), -100);
        due("a part", x.read(0, 1, 1, 3), 0);
        due("fault() after it", x.fault(), 0);
        due("a part of one", x.read(0, 1, 3, 1), 1);
        due("worlds", x.worlds(0), 64);
        due("from the 0 on", x.read(0, 1, 0, 4), -100);
        due("place from i on", x.read(0, 1, 1, 2), -102);
        due("sheet -1", x.read(-1, 0, 0, 0), UNKNOWN);
        due("sheet 4, lane 7", x.read(4, 7, 0, 0), UNKNOWN);
        due("lane 3", x.read(0, 3, 0, 0), OUTSIDE);
        due("lane -1 of nothing", x.read(1, -1, 0, 0), OUTSIDE);
        due("fault() after a refusal", x.fault(), 0);
        x.sheet(1, 0, 1);
        x.put(1, 0, 'a' + 256);
        due("cut to a byte", x.read(1, 0, 0, 1), 2);
        x.sheet(2, 2, 1);
        x.put(2, 0, 'a' + 256);
        due("not cut", x.read(2, 2, 0, 1), -100);
    }

    private static void full60() {
        ReasonDesk x = new ReasonDesk();
        say(x, "a");
        for (int i = 1; i < 60; i++) due("make", x.make(0, i - 1, 0), i);
        promise = 3;
        due("make the 61st", x.make(0, 0, 0), FULL);
        due("make of no sentence", x.make(0, 60, 0), UNKNOWN);
        due("worlds(59)", x.worlds(59), 128);
        promise = 2;
        due("read the 61st", say(x, "a"), FULL);
        due("FULL ahead of the text's faults", say(x, ")"), FULL);
        due("faults ahead of FULL", x.read(3, 0, 2, 1), INDEX);
    }

    private static void book() {
        promise = 8;
        ReasonDesk x = new ReasonDesk();
        say(x, "a", "b", "-a");
        due("hold", x.hold(0, 5, 3, 7, 9), 0);
        due("hold, least times", x.hold(1, 0, 0, 0, 0), 1);
        due("hold, greatest times", x.hold(2, 1, 99, 99, 99), 2);
        due("no sentence", x.hold(3, 9, 9, 8, 100), UNKNOWN);
        due("no sentence", x.hold(-1, 0, 0, 0, 0), UNKNOWN);
        due("no source", x.hold(0, 6, 9, 8, 0), UNKNOWN);
        due("no source", x.hold(0, -1, 0, 0, 0), UNKNOWN);
        due("from", x.hold(0, 0, -1, 5, 0), OUTSIDE);
        due("from", x.hold(0, 0, 100, 100, 0), OUTSIDE);
        due("to", x.hold(0, 0, 0, 100, 0), OUTSIDE);
        due("from above to", x.hold(0, 0, 6, 5, 0), OUTSIDE);
        due("known", x.hold(0, 0, 0, 5, 100), OUTSIDE);
        due("known", x.hold(0, 0, 0, 5, -1), OUTSIDE);
        promise = 10;
        int[] told = {0, 5, 3, 7, 9, NONE, 0, 0, 0};
        for (int what = 0; what < told.length; what++) due("entry(0, " + what + ")", x.entry(0, what), told[what]);
        due("entry(1, 6)", x.entry(1, 6), 1);
        due("entry(1, 7)", x.entry(1, 7), 1);
        due("entry(1, 8)", x.entry(1, 8), 1);
        due("entry(2, 2)", x.entry(2, 2), 99);
        due("entry(3, 9)", x.entry(3, 9), UNKNOWN);
        due("entry(-1, 0)", x.entry(-1, 0), UNKNOWN);
        due("entry(0, 9)", x.entry(0, 9), OUTSIDE);
        due("entry(0, -1)", x.entry(0, -1), OUTSIDE);
        promise = 12;
        x.trust(0, 2);
        x.trust(5, 9);
        due("weight(0)", x.weight(0), 0);
        due("weight(1)", x.weight(1), 9);
        due("weight(7)", x.weight(7), 16);
        due("weight(8)", x.weight(8), OUTSIDE);
        due("weight(-1)", x.weight(-1), OUTSIDE);
        due("weight(LEAST)", x.weight(LEAST), OUTSIDE);
        x.hold(1, 0, 0, 0, 0);
        due("two of one source", x.weight(10), 4);
        promise = 13;
        due("together(0)", x.together(0), 256);
        due("together(3): not in view", x.together(3), 64);
        due("together(5)", x.together(5), 0);
        due("together(16)", x.together(16), OUTSIDE);
        due("together(LEAST)", x.together(LEAST), OUTSIDE);
        promise = 8;
        for (int e = 4; e < 12; e++) due("hold", x.hold(0, 0, 0, 0, 0), e);
        due("hold the 13th", x.hold(0, 0, 0, 0, 0), FULL);
        due("hold no sentence", x.hold(3, 0, 0, 0, 0), UNKNOWN);
        promise = 12;
        due("weight of all", x.weight(4095), 9 + 2 + 5 + 2 * 9);
        due("weight(4096)", x.weight(4096), OUTSIDE);
    }

    private static void views() {
        promise = 9;
        ReasonDesk x = new ReasonDesk();
        say(x, "a", "b");
        x.hold(0, 0, 10, 20, 30);
        x.hold(1, 0, 0, 99, 50);
        due("view(9, 99)", x.view(9, 99), 1);
        due("view(10, 99)", x.view(10, 99), 2);
        due("view(20, 99)", x.view(20, 99), 2);
        due("view(21, 99)", x.view(21, 99), 1);
        due("view(15, 29)", x.view(15, 29), 0);
        due("view(15, 30)", x.view(15, 30), 1);
        due("view(15, 49)", x.view(15, 49), 1);
        due("view(-1, 0)", x.view(-1, 0), OUTSIDE);
        due("view(100, 0)", x.view(100, 0), OUTSIDE);
        due("view(0, 100)", x.view(0, 100), OUTSIDE);
        due("view(0, -1)", x.view(0, -1), OUTSIDE);
        due("t as it was", x.many(5), 15);
        due("k as it was", x.many(6), 49);
        promise = 11;
        due("drop(0, 60)", x.drop(0, 60), NONE);
        due("drop(0, 40)", x.drop(0, 40), 60);
        due("drop(0, 100)", x.drop(0, 100), OUTSIDE);
        due("drop(0, -1)", x.drop(0, -1), OUTSIDE);
        due("drop(2, 0)", x.drop(2, 0), UNKNOWN);
        due("drop(-1, 100)", x.drop(-1, 100), UNKNOWN);
        due("entry(0, 5)", x.entry(0, 5), 40);
        due("known at 39", x.view(15, 39), 1);
        due("known at 40", x.view(15, 40), 0);
        due("drop(0, NONE)", x.drop(0, NONE), 40);
        due("in view again", x.many(2), 1);
        due("drop(0, 0)", x.drop(0, 0), NONE);
        due("out of view", x.many(8), 0);
        due("drop(0, 99)", x.drop(0, 99), 0);
    }

    private static void reasons() {
        ReasonDesk x = new ReasonDesk();
        say(x, "a", "a>b", "b", "c", "c>b", "1", "0", "-b", "d");
        for (int s = 0; s < 5; s++) always(x, s, 0);
        promise = 14;
        due("reasons(2, 0)", x.reasons(2, 0), 3);
        due("reasons(2, 1)", x.reasons(2, 1), 0);
        due("reasons(7, 1)", x.reasons(7, 1), 3);
        due("reasons(5, 0): of what is always true", x.reasons(5, 0), 1);
        due("reasons(6, 0)", x.reasons(6, 0), 0);
        due("reasons(6, 1)", x.reasons(6, 1), 1);
        due("reasons(8, 0)", x.reasons(8, 0), 0);
        due("reasons(9, 2)", x.reasons(9, 2), UNKNOWN);
        due("reasons(-1, 0)", x.reasons(-1, 0), UNKNOWN);
        due("reasons(0, 2)", x.reasons(0, 2), OUTSIDE);
        due("reasons(0, -1)", x.reasons(0, -1), OUTSIDE);
        promise = 15;
        due("reason(2, 0, 0)", x.reason(2, 0, 0), 3);
        due("reason(2, 0, 1)", x.reason(2, 0, 1), 4);
        due("reason(2, 0, 2)", x.reason(2, 0, 2), 24);
        due("reason(2, 0, 3)", x.reason(2, 0, 3), UNKNOWN);
        due("reason(2, 0, -1)", x.reason(2, 0, -1), UNKNOWN);
        due("reason(2, 0, GREATEST)", x.reason(2, 0, GREATEST), UNKNOWN);
        due("reason(7, 1, 1)", x.reason(7, 1, 1), 4);
        due("reason(5, 0, 0)", x.reason(5, 0, 0), 0);
        due("reason(9, 0, 0)", x.reason(9, 0, 0), UNKNOWN);
        due("reason(2, 2, 0)", x.reason(2, 2, 0), OUTSIDE);
        due("reason(2, -1, -1)", x.reason(2, -1, -1), UNKNOWN);
        always(x, 7, 1);
        due("out of strife", x.reasons(8, 0), 3);
        due("reason(8, 0, 0)", x.reason(8, 0, 0), 35);
        due("reason(2, 0, 2) still", x.reason(2, 0, 2), 24);
        promise = 14;
        x.drop(2, 5);
        due("one out of view", x.reasons(2, 0), 2);
    }

    private static void harmonies() {
        ReasonDesk x = new ReasonDesk();
        say(x, "a", "-a", "b", "a>c", "c", "0", "a|-a", "b|c", "-c");
        promise = 16;
        due("harmonies(0) of none", x.harmonies(0), 1);
        due("harmonies(3) of none", x.harmonies(3), 0);
        always(x, 0, 0);
        always(x, 1, 1);
        always(x, 2, 2);
        always(x, 3, 3);
        due("harmonies(0)", x.harmonies(0), 2);
        due("harmonies(1)", x.harmonies(1), 2);
        due("harmonies(2)", x.harmonies(2), 15);
        due("harmonies(3)", x.harmonies(3), 12);
        due("harmonies(4)", x.harmonies(4), OUTSIDE);
        due("harmonies(-1)", x.harmonies(-1), OUTSIDE);
        promise = 17;
        due("harmony(0, 0)", x.harmony(0, 0), 13);
        due("harmony(0, 1)", x.harmony(0, 1), 14);
        due("harmony(0, 2)", x.harmony(0, 2), UNKNOWN);
        due("harmony(0, -1)", x.harmony(0, -1), UNKNOWN);
        due("harmony(2, 0)", x.harmony(2, 0), OUTSIDE);
        due("harmony(-1, 99)", x.harmony(-1, 99), UNKNOWN);
        promise = 18;
        int[][] held = {
            {1, 0, 1, 0, 0}, {1, 0, 1, 0, 0}, {1, 1, 1, 1, 1}, {1, 1, 1, 1, 1}, {1, 0, 1, 0, 0},
            {1, 0, 0, 0, 0}, {1, 1, 1, 1, 1}, {1, 1, 1, 1, 1}, {1, 0, 0, 0, 0}};
        for (int s = 0; s < held.length; s++)
            for (int sense = 0; sense < 5; sense++) due("held(" + s + ", " + sense + ")", x.held(s, sense), held[s][sense]);
        due("held(9, 5)", x.held(9, 5), UNKNOWN);
        due("held(0, 5)", x.held(0, 5), OUTSIDE);
        due("held(0, -1)", x.held(0, -1), OUTSIDE);
        x.trust(0, 6);
        promise = 16;
        due("one is best", x.harmonies(1), 1);
        due("its weight", x.harmonies(2), 16);
        promise = 17;
        due("harmony(1, 0)", x.harmony(1, 0), 13);
        due("harmony(1, 1)", x.harmony(1, 1), UNKNOWN);
        promise = 18;
        due("held(4, 3)", x.held(4, 3), 1);
        due("held(4, 1)", x.held(4, 1), 0);
        promise = 10;
        due("entry(0, 7)", x.entry(0, 7), 0);
        due("entry(0, 8)", x.entry(0, 8), 1);
        due("entry(2, 7)", x.entry(2, 7), 1);
        due("entry(2, 8)", x.entry(2, 8), 2);
        always(x, 5, 0);
        promise = 16;
        due("what is never true is in none", x.harmonies(3), 12);
        due("harmonies(0)", x.harmonies(0), 2);
        promise = 10;
        due("entry(4, 8)", x.entry(4, 8), 0);
        sixOfTwelve();
    }

    // Twelve entries of which each letter's two are apart: 64 harmonies.
    private static void sixOfTwelve() {
        ReasonDesk x = new ReasonDesk();
        say(x, "a", "b", "c", "d", "e", "f");
        for (int s = 0; s < 6; s++) {
            always(x, s, s);
            always(x, x.make(0, s, 0), s);
        }
        promise = 16;
        due("harmonies(0)", x.harmonies(0), 64);
        due("harmonies(1)", x.harmonies(1), 64);
        due("harmonies(2)", x.harmonies(2), 30);
        promise = 17;
        due("the first", x.harmony(0, 0), 0x555);
        due("the last", x.harmony(0, 63), 0xAAA);
        due("beyond", x.harmony(0, 64), UNKNOWN);
        promise = 10;
        due("entry(11, 8)", x.entry(11, 8), 32);
    }

    private static void givingUp() {
        ReasonDesk x = new ReasonDesk();
        say(x, "a", "a>b", "b", "1", "d", "a&b");
        always(x, 0, 0);
        always(x, 1, 1);
        promise = 19;
        due("cuts(2)", x.cuts(2), 2);
        due("cuts(4): it does not follow", x.cuts(4), 1);
        due("cuts(3): always true", x.cuts(3), 0);
        due("cuts(6)", x.cuts(6), UNKNOWN);
        due("cuts(-1)", x.cuts(-1), UNKNOWN);
        promise = 20;
        due("cutOf(2, 0)", x.cutOf(2, 0), 1);
        due("cutOf(2, 1)", x.cutOf(2, 1), 2);
        due("cutOf(2, 2)", x.cutOf(2, 2), UNKNOWN);
        due("cutOf(2, -1)", x.cutOf(2, -1), UNKNOWN);
        due("cutOf(4, 0)", x.cutOf(4, 0), 0);
        due("cutOf(3, 0)", x.cutOf(3, 0), UNKNOWN);
        due("cutOf(6, 0)", x.cutOf(6, 0), UNKNOWN);
        promise = 21;
        due("least(2): the first of alike ones", x.least(2), 1);
        x.trust(0, 6);
        due("least(2): the lighter one", x.least(2), 2);
        due("least(4)", x.least(4), 0);
        due("least(3)", x.least(3), STATE);
        due("least(6)", x.least(6), UNKNOWN);
        due("least(-1)", x.least(-1), UNKNOWN);
        always(x, 2, 3);
        always(x, 2, 4);
        x.trust(1, 9);
        x.trust(0, 9);
        due("least(2): all reasons", x.least(2), 13);
        promise = 24;
        due("postulate(2, 0)", x.postulate(2, 0), 1);
        due("postulate(2, 1)", x.postulate(2, 1), 1);
        due("postulate(2, 2)", x.postulate(2, 2), 1);
        due("postulate(2, 3): a is lost", x.postulate(2, 3), 0);
        due("postulate(5, 3): b with a", x.postulate(5, 3), 1);
        due("postulate(4, 0)", x.postulate(4, 0), 1);
        due("postulate(4, 1)", x.postulate(4, 1), 1);
        due("postulate(3, 0)", x.postulate(3, 0), STATE);
        due("postulate(3, 4)", x.postulate(3, 4), OUTSIDE);
        due("postulate(6, 4)", x.postulate(6, 4), UNKNOWN);
        due("postulate(2, -1)", x.postulate(2, -1), OUTSIDE);
        due("not done", x.many(8), 15);
        fewest();
        promise = 22;
        x.view(0, 70);
        due("giveUp(4)", x.giveUp(4), 0);
        due("giveUp(3)", x.giveUp(3), STATE);
        due("giveUp(6)", x.giveUp(6), UNKNOWN);
        due("giveUp(2)", x.giveUp(2), 13);
        due("entry(0, 5)", x.entry(0, 5), 70);
        due("entry(1, 5)", x.entry(1, 5), NONE);
        due("entry(3, 5)", x.entry(3, 5), 70);
        due("left in view", x.many(8), 2);
        due("held(2, 0)", x.held(2, 0), 0);
        due("known sooner", x.view(0, 69), 4);
        due("held(2, 0) then", x.held(2, 0), 1);
    }

    private static void fewest() {
        promise = 21;
        ReasonDesk x = new ReasonDesk();
        say(x, "a", "a|b");
        // a follows of the first two with the third (1 + 1), or of none without the heavier third (2)
        x.trust(0, 1);
        x.trust(1, 2);
        int and = say(x, "a&(b>c)");
        int two = say(x, "(a|d)&(a|-d)");
        always(x, 0, 0);
        always(x, 0, 0);
        due("both reasons go", x.least(0), 3);
        ReasonDesk y = new ReasonDesk();
        say(y, "b>a", "c>a", "b&c", "a");
        y.trust(0, 1);
        y.trust(1, 2);
        always(y, 0, 0);
        always(y, 1, 0);
        always(y, 2, 1);
        due("of one weight the fewest", y.least(3), 4);
        y.trust(1, 3);
        due("the least weight first", y.least(3), 3);
        due("sentences made", and + two, 5);
        ReasonDesk z = new ReasonDesk();
        say(z, "b>a", "c>a", "d>a", "b&c&d", "a", "g|h", "-(-g&-h)&a");
        z.trust(0, 1);
        z.trust(1, 4);
        for (int s = 0; s < 3; s++) always(z, s, 0);
        always(z, 3, 1);
        due("many light ones go ahead of a heavy one", z.least(4), 7);
        due("false in the first 64 worlds alone", z.least(5), 0);
        promise = 22;
        due("giveUp of what does not follow", z.giveUp(z.make(0, z.make(2, 4, 6), 0)), 0);
        z.view(0, 40);
        z.giveUp(4);
        int e = z.hold(4, 0, 0, 99, 0);
        due("giveUp(4)", z.giveUp(4), 1 << e);
        due("given up", z.entry(e, 5), 40);
        ReasonDesk first = new ReasonDesk();
        say(first, "a");
        always(first, 0, 0);
        due("giveUp(0)", first.giveUp(0), 1);
        due("nothing is left", first.many(8), 0);
        worldZero();
    }

    // What is false in world 0 alone: no entry tells letters, so it follows of none.
    private static void worldZero() {
        ReasonDesk x = new ReasonDesk();
        say(x, "a|b|c|d|e|f|g|h", "a", "-a");
        promise = 18;
        for (int sense = 0; sense < 5; sense++) due("held by an empty book", x.held(0, sense), 0);
        promise = 14;
        due("reasons of none", x.reasons(0, 0), 0);
        promise = 19;
        due("cuts: the empty one", x.cuts(0), 1);
        promise = 21;
        due("least(0)", x.least(0), 0);
        always(x, 1, 0);
        promise = 14;
        due("a is a reason", x.reasons(0, 0), 1);
        promise = 20;
        due("without it world 0 is left", x.cutOf(0, 0), 1);
        promise = 24;
        due("what is true but in world 0 does not bring back a", x.postulate(0, 3), 0);
        ReasonDesk y = new ReasonDesk();
        say(y, "a", "-(a|b|c|d|e|f|g|h)", "-(a&b&c&d&e&f&g&h)", "0", "-(-a&-b)");
        always(y, 0, 0);
        always(y, 1, 0);
        due("world 0 comes back", y.postulate(1, 3), 1);
        promise = 16;
        ReasonDesk z = new ReasonDesk();
        say(z, "a&-a", "-g&-h");
        always(z, 0, 0);
        due("the only harmony is the empty one", z.harmonies(0), 1);
        due("free: none", z.harmonies(3), 0);
        due("weight 0", z.harmonies(2), 0);
        promise = 23;
        due("true in the first 64 worlds alone", z.news(1, 0), 1);
    }

    private static void news() {
        promise = 23;
        ReasonDesk x = new ReasonDesk();
        say(x, "a", "b", "-a", "0", "1", "-(a&b)");
        x.trust(0, 9);
        always(x, 0, 0);
        always(x, 1, 1);
        x.view(20, 60);
        due("news of -(a&b)", x.news(5, 2), 2);
        int[] told = {5, 2, 20, 99, 60, NONE, 1, 1, 1};
        for (int what = 0; what < told.length; what++) due("entry(2, " + what + ")", x.entry(2, what), told[what]);
        due("b went", x.entry(1, 5), 60);
        due("a did not", x.entry(0, 5), NONE);
        due("in view", x.many(8), 5);
        due("sooner t", x.view(19, 60), 1);
        due("sooner k", x.view(20, 59), 2);
        x.view(20, 60);
        due("news of what is never true", x.news(3, 0), STATE);
        due("news of what is always true", x.news(4, 0), 3);
        due("no source", x.news(3, 6), UNKNOWN);
        due("no sentence", x.news(6, 0), UNKNOWN);
        due("no sentence", x.news(-1, 0), UNKNOWN);
        due("nothing went", x.many(8), 13);
        for (int e = 4; e < 12; e++) due("news of a", x.news(0, 1), e);
        due("news that is too much", x.news(2, 1), FULL);
        due("nothing went then", x.many(8), 4096 - 3);
        due("STATE ahead of FULL", x.news(3, 1), STATE);
        x = new ReasonDesk();
        say(x, "a");
        x.view(7, 8);
        due("news of an empty book", x.news(0, 5), 0);
        due("known", x.entry(0, 4), 8);
    }

    private static void rules() {
        promise = 25;
        ReasonDesk x = new ReasonDesk();
        say(x, "a", "b", "c", "1", "0", "-b", "-c");
        due("kind", x.rule(3, 9, 0, 0, 0), OUTSIDE);
        due("kind", x.rule(-1, 0, 0, 0, 0), OUTSIDE);
        due("if", x.rule(0, 7, 0, 0, 10), UNKNOWN);
        due("then", x.rule(0, 0, 7, 0, 0), UNKNOWN);
        due("unless", x.rule(0, 0, 0, -1, 0), UNKNOWN);
        due("rank", x.rule(0, 0, 0, 0, 10), OUTSIDE);
        due("rank", x.rule(0, 0, 0, 0, -1), OUTSIDE);
        due("none was made", x.many(3), 0);
        due("rule", x.rule(2, 0, 1, 4, 9), 0);
        due("barred", x.rule(1, 3, 2, 1, 0), 1);
        due("plain", x.rule(0, 3, 5, 2, 4), 2);
        promise = 26;
        int[][] told = {{2, 0, 1, 4, 9}, {1, 3, 2, 1, 0}, {0, 3, 5, 2, 4}};
        for (int r = 0; r < 3; r++)
            for (int what = 0; what < 5; what++) due("ruled(" + r + ", " + what + ")", x.ruled(r, what), told[r][what]);
        due("goes of base: a does not follow", x.ruled(0, 5), 0);
        due("goes of base", x.ruled(1, 5), 1);
        due("goes of base", x.ruled(2, 5), 1);
        due("bars: b is the unless of 1", x.ruled(0, 8), 2);
        due("bars: c is the unless of 2", x.ruled(1, 8), 4);
        due("bars none", x.ruled(2, 8), 0);
        due("no circle", x.ruled(0, 7), NONE);
        due("ruled(0, 9)", x.ruled(0, 9), OUTSIDE);
        due("ruled(0, -1)", x.ruled(0, -1), OUTSIDE);
        due("ruled(3, 9)", x.ruled(3, 9), UNKNOWN);
        due("ruled(-1, 0)", x.ruled(-1, 0), UNKNOWN);
        due("a third", x.rule(0, 3, 0, 6, 0), 3);
        due("circle of one with no bar", x.ruled(3, 7), NONE);
        due("of itself", x.rule(0, 3, 5, 5, 0), 4);
        due("a circle of one step", x.ruled(4, 7), 1);
        due("bars itself alone", x.ruled(4, 8), 16);
        promise = 25;
        for (int r = 5; r < 10; r++) due("rule", x.rule(0, 0, 0, 0, 0), r);
        due("rule the 11th", x.rule(0, 0, 0, 0, 0), FULL);
        due("rank ahead of FULL", x.rule(0, 0, 0, 0, 10), OUTSIDE);
        circles();
    }

    private static void circles() {
        promise = 26;
        ReasonDesk x = new ReasonDesk();
        say(x, "a", "b", "c", "1", "d");
        x.rule(0, 3, 0, 2, 0);
        x.rule(0, 3, 1, 0, 0);
        x.rule(0, 3, 2, 1, 0);
        for (int r = 0; r < 3; r++) due("circle of three", x.ruled(r, 7), 3);
        due("bars", x.ruled(0, 8), 2);
        due("bars", x.ruled(2, 8), 1);
        x.rule(0, 3, 4, 0, 0);
        due("off the circle", x.ruled(3, 7), NONE);
        due("bars two", x.ruled(0, 8), 10);
        x.rule(0, 3, 0, 4, 0);
        due("circle of two", x.ruled(3, 7), 2);
        due("still three", x.ruled(1, 7), 3);
        int not = x.make(0, 0, 0);
        always(x, not, 0);
        due("no world of base: bars none", x.ruled(0, 8), 0);
        due("no circle then", x.ruled(1, 7), NONE);
        due("goes no more", x.ruled(0, 5), 0);
        promise = 27;
        due("three in a circle: none, once the first can not go", x.extensions(0), 1);
        due("worlds of base", x.extensions(2), 128);
    }

    private static void extensions() {
        ReasonDesk x = new ReasonDesk();
        promise = 27;
        due("extensions(0) of no rules", x.extensions(0), 1);
        due("extensions(2)", x.extensions(2), 256);
        // quakers (a) are pacifists (c) unless they are not; republicans (b) are not unless they are
        say(x, "a", "b", "c", "-c", "a&b", "1", "0", "d", "e", "f");
        always(x, 4, 0);
        x.rule(0, 0, 2, 3, 1);
        x.rule(1, 1, 3, 2, 0);
        due("extensions(0)", x.extensions(0), 2);
        due("extensions(1)", x.extensions(1), 1);
        due("extensions(2)", x.extensions(2), 64);
        due("extensions(3)", x.extensions(3), OUTSIDE);
        due("extensions(-1)", x.extensions(-1), OUTSIDE);
        promise = 28;
        due("extension(0, 0)", x.extension(0, 0), 1);
        due("extension(0, 1)", x.extension(0, 1), 2);
        due("extension(0, 2)", x.extension(0, 2), UNKNOWN);
        due("extension(0, -1)", x.extension(0, -1), UNKNOWN);
        due("extension(1, 0): rank 0 is best", x.extension(1, 0), 2);
        due("extension(1, 1)", x.extension(1, 1), UNKNOWN);
        due("extension(2, 1)", x.extension(2, 1), 32);
        due("extension(2, 2)", x.extension(2, 2), UNKNOWN);
        due("extension(3, 0)", x.extension(3, 0), OUTSIDE);
        due("extension(-1, -1)", x.extension(-1, -1), UNKNOWN);
        promise = 29;
        due("c of each", x.concluded(2, 0), 0);
        due("c of some", x.concluded(2, 1), 1);
        due("c of best", x.concluded(2, 2), 0);
        due("-c of best", x.concluded(3, 2), 1);
        due("a&b of each", x.concluded(4, 0), 1);
        due("0 of some", x.concluded(6, 1), 0);
        due("concluded(10, 3)", x.concluded(10, 3), UNKNOWN);
        due("concluded(0, 3)", x.concluded(0, 3), OUTSIDE);
        due("concluded(0, -1)", x.concluded(0, -1), OUTSIDE);
        promise = 26;
        due("in how many", x.ruled(0, 6), 1);
        // an odd circle: d unless e, e unless f, f unless d
        for (int r = 0; r < 3; r++) x.rule(0, 5, 7 + r, 7 + (r + 1) % 3, 0);
        promise = 27;
        due("none", x.extensions(0), 0);
        due("no best one", x.extensions(1), 0);
        promise = 28;
        due("extension(0, 0) of none", x.extension(0, 0), UNKNOWN);
        promise = 29;
        due("NONE", x.concluded(5, 0), NONE);
        due("NONE", x.concluded(5, 1), NONE);
        due("OUTSIDE ahead of NONE", x.concluded(5, 3), OUTSIDE);
        grounded();
    }

    // a if b and b if a hold up one another: neither is in an extension; and ranks are counted.
    private static void grounded() {
        promise = 28;
        ReasonDesk x = new ReasonDesk();
        say(x, "a", "b", "0", "1", "c", "-a");
        x.rule(0, 0, 1, 2, 0);
        x.rule(0, 1, 0, 2, 0);
        due("one extension", x.extensions(0), 1);
        due("the empty one", x.extension(0, 0), 0);
        x.rule(2, 4, 0, 2, 0);
        x.rule(2, 3, 4, 2, 0);
        due("one extension", x.extensions(0), 1);
        due("a row of four", x.extension(0, 0), 15);
        due("its worlds", x.extension(2, 0), 32);
        always(x, 5, 0);
        // the last goes, then the third would have to: but a can not be
        due("what can not be true does not go", x.extension(0, 0), 8);
        x.view(0, 98);
        x.drop(0, 98);
        due("as it was", x.extension(0, 0), 15);
        ReasonDesk y = new ReasonDesk();
        say(y, "a", "b", "0");
        always(y, 2, 0);
        y.rule(0, 2, 0, 1, 0);
        due("of no worlds nothing goes", y.extension(0, 0), 0);
        due("and there is one", y.extensions(0), 1);
        promise = 29;
        due("of no worlds all follows", y.concluded(2, 0), 1);
        due("of some", y.concluded(2, 1), 1);
    }

    private static void claims() {
        ReasonDesk x = new ReasonDesk();
        say(x, "a", "-a", "0", "b", "-a&-b", "a&b");
        promise = 30;
        due("claim", x.claim(0, 0), 0);
        due("claim", x.claim(1, 1), 1);
        due("claim", x.claim(2, 2), 2);
        due("claim", x.claim(3, 5), 3);
        due("no sentence", x.claim(6, 0), UNKNOWN);
        due("no sentence", x.claim(-1, 0), UNKNOWN);
        due("no source", x.claim(0, 6), UNKNOWN);
        due("no source", x.claim(0, -1), UNKNOWN);
        promise = 31;
        due("strikes(0, 1)", x.strikes(0, 1), 1);
        due("strikes(1, 0)", x.strikes(1, 0), 1);
        due("strikes(0, 0)", x.strikes(0, 0), 0);
        due("strikes(2, 2)", x.strikes(2, 2), 1);
        due("strikes(2, 3)", x.strikes(2, 3), 1);
        due("strikes(0, 3)", x.strikes(0, 3), 0);
        due("strikes(4, 0)", x.strikes(4, 0), UNKNOWN);
        due("strikes(0, -1)", x.strikes(0, -1), UNKNOWN);
        x.trust(1, 4);
        due("below", x.strikes(1, 0), 0);
        due("above", x.strikes(0, 1), 1);
        for (int source = 0; source < 6; source++) x.trust(source, source == 0 ? 3 : 8);
        due("all trusts are others", x.strikes(0, 1), 0);
        for (int source = 0; source < 6; source++) x.trust(source, 5);
        due("again", x.strikes(1, 0), 1);
        x.trust(2, 1);
        promise = 33;
        due("sets(0)", x.sets(0), 6);
        due("sets(1)", x.sets(1), 2);
        due("sets(2)", x.sets(2), 2);
        due("sets(3)", x.sets(3), 8);
        due("sets(4)", x.sets(4), OUTSIDE);
        due("sets(-1)", x.sets(-1), OUTSIDE);
        promise = 34;
        due("setOf(1, 0)", x.setOf(1, 0), 9);
        due("setOf(1, 1)", x.setOf(1, 1), 10);
        due("setOf(1, 2)", x.setOf(1, 2), UNKNOWN);
        due("setOf(1, -1)", x.setOf(1, -1), UNKNOWN);
        due("setOf(2, 1)", x.setOf(2, 1), 10);
        due("setOf(0, 0)", x.setOf(0, 0), OUTSIDE);
        due("setOf(3, 0)", x.setOf(3, 0), OUTSIDE);
        due("setOf(0, 99)", x.setOf(0, 99), UNKNOWN);
        promise = 32;
        int[][] told = {{0, 0, NONE, 1, 1, 1, NONE, 0}, {1, 1, NONE, 1, 1, 1, NONE, 0},
            {2, 2, NONE, 0, 0, 0, 3, 0}, {3, 5, 1, 2, 2, 2, NONE, 1}};
        for (int c = 0; c < told.length; c++)
            for (int what = 0; what < 8; what++) due("claimed(" + c + ", " + what + ")", x.claimed(c, what), told[c][what]);
        due("claimed(0, 8)", x.claimed(0, 8), OUTSIDE);
        due("claimed(0, -1)", x.claimed(0, -1), OUTSIDE);
        due("claimed(4, 8)", x.claimed(4, 8), UNKNOWN);
        due("claimed(-1, 0)", x.claimed(-1, 0), UNKNOWN);
        promise = 33;
        x.trust(2, 9);
        due("stable: what is never true strikes all, and itself", x.sets(2), 0);
        due("sound: the empty one", x.sets(0), 1);
        due("preferred: the empty one", x.sets(1), 1);
        promise = 34;
        due("setOf(2, 0) of none", x.setOf(2, 0), UNKNOWN);
        due("setOf(1, 0)", x.setOf(1, 0), 0);
        promise = 30;
        for (int c = 4; c < 12; c++) due("claim", x.claim(0, 0), c);
        due("claim the 13th", x.claim(0, 0), FULL);
        due("no source ahead of FULL", x.claim(0, 6), UNKNOWN);
        promise = 33;
        due("sets(1) of twelve", x.sets(1), 1);
    }

    // A row of claims, each of which is struck by the next one alone: every other one stands.
    private static void dialogues() {
        ReasonDesk x = new ReasonDesk();
        say(x, "a", "-a&b", "-b&c", "-c&d", "-d&e", "-e");
        promise = 31;
        for (int c = 0; c < 6; c++) {
            x.trust(c, 1 + c);
            due("claim", x.claim(c, c), c);
        }
        for (int a = 0; a < 6; a++) for (int b = 0; b < 6; b++) due("a row", x.strikes(a, b), a == b + 1 ? 1 : 0);
        promise = 32;
        int[] rounds = {NONE, 3, NONE, 2, NONE, 1}, answers = {1, NONE, 3, NONE, 5, NONE};
        for (int c = 0; c < 6; c++) {
            due("round of " + c, x.claimed(c, 2), rounds[c]);
            due("stands " + c, x.claimed(c, 3), rounds[c] > 0 ? 2 : 0);
            due("answer to " + c, x.claimed(c, 6), answers[c]);
            due("dialogue about " + c, x.claimed(c, 7), rounds[c] > 0 ? 1 : 0);
            due("preferred of " + c, x.claimed(c, 4), rounds[c] > 0 ? 1 : 0);
        }
        promise = 33;
        due("standing", x.sets(3), 42);
        due("sound: the ends of the row", x.sets(0), 4);
        // another one that strikes the first, in round 1; of two of round 1 the first
        promise = 32;
        x.claim(x.make(0, 0, 0), 5);
        due("the least round", x.claimed(0, 6), 6);
        x.claim(x.make(0, 0, 0), 5);
        due("of several the first", x.claimed(0, 6), 6);
        due("open: none", x.claimed(0, 3), 0);
        odd();
    }

    // Three that strike in turn can not be made of contraries; two alike in trust leave all open.
    private static void odd() {
        ReasonDesk x = new ReasonDesk();
        say(x, "a&b", "-a", "-b&c", "-c");
        x.trust(3, 4);
        for (int c = 0; c < 4; c++) x.claim(c, c);
        promise = 32;
        // 0 and 1, 0 and 2 strike each other; 3 is struck by 2 and can not strike back
        due("open", x.claimed(0, 3), 1);
        due("open", x.claimed(3, 3), 1);
        due("no answer", x.claimed(0, 6), NONE);
        due("lost", x.claimed(0, 7), 0);
        due("in how many preferred", x.claimed(3, 4), 1);
        due("in how many stable", x.claimed(1, 5), 1);
        promise = 34;
        due("setOf(1, 0)", x.setOf(1, 0), 6);
        due("setOf(1, 1)", x.setOf(1, 1), 9);
        promise = 33;
        due("standing", x.sets(3), 0);
        due("sound", x.sets(0), 6);
    }

    private static void merging() {
        ReasonDesk x = new ReasonDesk();
        say(x, "a&b&c", "-a&-b&-c", "a", "0", "1");
        promise = 35;
        due("parts() of none", x.parts(), 0);
        promise = 37;
        for (int law = 0; law < 3; law++) due("merged of none", x.merged(law), 256);
        promise = 38;
        for (int law = 0; law < 3; law++) due("its first world", x.mergedWorld(law, 0), 0);
        promise = 37;
        always(x, 0, 0);
        always(x, 1, 1);
        promise = 35;
        due("parts()", x.parts(), 2);
        promise = 36;
        due("far(7, 0)", x.far(7, 0), 0);
        due("far(0, 0)", x.far(0, 0), 3);
        due("far(255, 1)", x.far(255, 1), 3);
        due("far(248, 0)", x.far(248, 0), 3);
        due("far(5, 1)", x.far(5, 1), 2);
        due("far(0, 2)", x.far(0, 2), STATE);
        due("far(256, 2)", x.far(256, 2), UNKNOWN);
        due("far(-1, 0)", x.far(-1, 0), UNKNOWN);
        due("far(0, 6)", x.far(0, 6), UNKNOWN);
        due("far(0, -1)", x.far(0, -1), UNKNOWN);
        promise = 37;
        due("merged(0): all between", x.merged(0), 256);
        due("merged(1): in the middle", x.merged(1), 192);
        due("merged(2): in the middle", x.merged(2), 192);
        due("merged(3)", x.merged(3), OUTSIDE);
        due("merged(-1)", x.merged(-1), OUTSIDE);
        promise = 38;
        due("mergedWorld(1, 0)", x.mergedWorld(1, 0), 1);
        due("mergedWorld(1, 5)", x.mergedWorld(1, 5), 6);
        due("mergedWorld(1, 6)", x.mergedWorld(1, 6), 9);
        due("mergedWorld(1, 191)", x.mergedWorld(1, 191), 254);
        due("mergedWorld(1, 192)", x.mergedWorld(1, 192), UNKNOWN);
        due("mergedWorld(1, -1)", x.mergedWorld(1, -1), UNKNOWN);
        due("mergedWorld(3, -1)", x.mergedWorld(3, -1), OUTSIDE);
        x.trust(1, 6);
        promise = 37;
        due("trust tips law 0", x.merged(0), 32);
        due("not law 1", x.merged(1), 192);
        promise = 39;
        due("agreed(1, 0)", x.agreed(1, 0), 1);
        due("agreed(1, 1)", x.agreed(1, 1), 0);
        due("agreed(4, 2)", x.agreed(4, 2), 1);
        due("agreed(3, 2)", x.agreed(3, 2), 0);
        due("agreed(5, 9)", x.agreed(5, 9), UNKNOWN);
        due("agreed(0, 3)", x.agreed(0, 3), OUTSIDE);
        due("agreed(0, -1)", x.agreed(0, -1), OUTSIDE);
        always(x, 2, 2);
        always(x, 2, 3);
        promise = 37;
        due("law 2 goes on where law 1 stops", x.merged(2), 96);
        due("law 1", x.merged(1), 192);
        promise = 39;
        due("agreed(2, 2)", x.agreed(2, 2), 1);
        due("agreed(2, 1)", x.agreed(2, 1), 0);
        always(x, 3, 0);
        promise = 35;
        due("a book without a world", x.parts(), 3);
        promise = 36;
        due("far of it", x.far(0, 0), STATE);
        x.drop(4, 99);
        due("far of it again", x.far(0, 0), 3);
        x.view(0, 98);
        due("known sooner", x.far(0, 0), STATE);
        promise = 35;
        x.drop(4, NONE);
        x.drop(0, 0);
        due("only what is never true", x.parts(), 3);
        farthest();
    }

    // Two sources that are other in all eight letters.
    private static void farthest() {
        ReasonDesk x = new ReasonDesk();
        say(x, "a&b&c&d&e&f&g&h", "-(a|b|c|d|e|f|g|h)");
        always(x, 0, 4);
        always(x, 1, 5);
        promise = 36;
        due("far(0, 4)", x.far(0, 4), 8);
        due("far(255, 5)", x.far(255, 5), 8);
        promise = 37;
        due("merged(0)", x.merged(0), 256);
        due("merged(1)", x.merged(1), 70);
        due("merged(2)", x.merged(2), 70);
        promise = 38;
        due("mergedWorld(2, 0)", x.mergedWorld(2, 0), 15);
        due("mergedWorld(2, 69)", x.mergedWorld(2, 69), 240);
        due("mergedWorld(2, 70)", x.mergedWorld(2, 70), UNKNOWN);
    }

    private static void holds() {
        ReasonDesk x = new ReasonDesk();
        say(x, "a", "b", "c", "d");
        always(x, 3, 0);
        always(x, 2, 0);
        for (int kind = 0; kind < 3; kind++) x.rule(kind, 0, 2 - kind % 2, 3, 0);
        promise = 40;
        due("take(0, 0, 1)", x.take(0, 0, 1), 1);
        for (int r = 0; r < 3; r++) due("take a rule", x.take(1 + r, 1, r), 1);
        due("take(6, 2, 0)", x.take(6, 2, 0), UNKNOWN);
        due("take(-1, 0, 0)", x.take(-1, 0, 0), UNKNOWN);
        due("take(0, 2, 9)", x.take(0, 2, 9), OUTSIDE);
        due("take(0, -1, 0)", x.take(0, -1, 0), OUTSIDE);
        due("take(0, 0, 2)", x.take(0, 0, 2), UNKNOWN);
        due("take(0, 1, 3)", x.take(0, 1, 3), UNKNOWN);
        due("take(0, 1, -1)", x.take(0, 1, -1), UNKNOWN);
        promise = 42;
        due("as an entry", x.as(0, 0), 1);
        int[][] as = {{1, CAST, CAST, CAST}, {CAST, 0, CAST, CAST}, {CAST, 1, 1, CAST}, {CAST, 2, 2, 2}, {NULL, NULL, NULL, NULL}};
        for (int k = 0; k < as.length; k++) {
            for (int kind = 0; kind < 4; kind++) {
                due("as(" + k + ", " + kind + ")", x.as(k, kind), as[k][kind]);
                due("fault()", x.fault(), as[k][kind] == CAST ? 2 : as[k][kind] == NULL ? 1 : 0);
            }
        }
        due("as(6, 4)", x.as(6, 4), UNKNOWN);
        due("as(4, 4)", x.as(4, 4), OUTSIDE);
        due("as(0, -1)", x.as(0, -1), OUTSIDE);
        due("fault()", x.fault(), 0);
        promise = 43;
        int trace = 0;
        due("tell an entry", x.tell(0), 2);
        trace = 31 * trace + 1;
        due("trace()", x.trace(), trace);
        due("tell a rule", x.tell(1), 2);
        trace = 31 * trace + 2;
        due("trace()", x.trace(), trace);
        due("tell a barred one", x.tell(2), 1 + 3);
        trace = 31 * (31 * trace + 3) + 2;
        due("trace()", x.trace(), trace);
        due("tell a loose one", x.tell(3), -2 - 1);
        trace = 31 * (31 * trace + 4) + 2;
        due("trace()", x.trace(), trace);
        due("fault()", x.fault(), 0);
        due("tell nothing", x.tell(5), NULL);
        due("fault()", x.fault(), 1);
        due("tell(6)", x.tell(6), UNKNOWN);
        due("tell(-1)", x.tell(-1), UNKNOWN);
        due("fault()", x.fault(), 0);
        promise = 44;
        due("show a rule", x.show(1), 0);
        trace = 31 * trace + 5;
        due("trace()", x.trace(), trace);
        due("show a barred one", x.show(2), 101);
        trace = 31 * (31 * trace + 6) + 5;
        due("trace()", x.trace(), trace);
        due("show a loose one", x.show(3), 1102);
        trace = 31 * (31 * (31 * trace + 7) + 6) + 5;
        due("trace()", x.trace(), trace);
        due("show an entry", x.show(0), CAST);
        due("fault()", x.fault(), 2);
        due("show nothing", x.show(4), NULL);
        due("fault()", x.fault(), 1);
        due("show(6)", x.show(6), UNKNOWN);
        due("fault()", x.fault(), 0);
        due("show(4)", x.show(4), NULL);
        due("show a rule again", x.show(1), 0);
        trace = 31 * trace + 5;
        due("fault()", x.fault(), 0);
        due("show(-1)", x.show(-1), UNKNOWN);
        promise = 50;
        due("faults leave no trace", x.trace(), trace);
        for (int i = 0; i < 9; i++) {
            x.show(3);
            trace = 31 * (31 * (31 * trace + 7) + 6) + 5;
        }
        due("trace() wraps", x.trace(), trace);
        due("a new one's", new ReasonDesk().trace(), 0);
        promise = 41;
        due("loose(0)", x.loose(0), 1);
        due("loose(0) again", x.loose(0), 0);
        due("loose(6)", x.loose(6), UNKNOWN);
        due("loose(-1)", x.loose(-1), UNKNOWN);
        due("as nothing", x.as(0, 0), NULL);
        due("loose leaves fault()", x.loose(1), 1);
        promise = 51;
        due("fault()", x.fault(), 1);
        x.take(1, 0, 0);
        x.take(9, 0, 0);
        x.many(0);
        due("calls that name none", x.fault(), 1);
        x.put(9, 0, 0);
        due("a refusal", x.fault(), 0);
    }

    private static void sheets() {
        ReasonDesk x = new ReasonDesk();
        promise = 45;
        due("sheet(0, 0, 60)", x.sheet(0, 0, 60), 1);
        due("sheet(1, 1, 0)", x.sheet(1, 1, 0), 1);
        due("sheet(2, 2, 3)", x.sheet(2, 2, 3), 1);
        due("sheet(4, 3, -1)", x.sheet(4, 3, -1), UNKNOWN);
        due("sheet(-1, 0, 0)", x.sheet(-1, 0, 0), UNKNOWN);
        due("sheet(3, 3, -1)", x.sheet(3, 3, -1), OUTSIDE);
        due("sheet(3, -1, 1)", x.sheet(3, -1, 1), OUTSIDE);
        due("sheet(3, 0, 61)", x.sheet(3, 0, 61), OUTSIDE);
        due("fault()", x.fault(), 0);
        due("sheet(3, 0, -1)", x.sheet(3, 0, -1), SIZE);
        due("fault()", x.fault(), 4);
        due("sheet(4, 0, 0)", x.sheet(4, 0, 0), UNKNOWN);
        due("fault()", x.fault(), 0);
        due("sheet(2, 0, LEAST)", x.sheet(2, 0, LEAST), SIZE);
        due("as it was", x.cell(2, 2, 2), 0);
        due("sheet(3, 0, LEAST) leaves nothing", x.put(3, 0, 0), NULL);
        promise = 47;
        due("put(0, 59, 300)", x.put(0, 59, 300), 1);
        due("put(2, 2, LEAST)", x.put(2, 2, LEAST), 1);
        due("put(1, 0, 0)", x.put(1, 0, 0), INDEX);
        due("fault()", x.fault(), 3);
        due("put(0, 60, 0)", x.put(0, 60, 0), INDEX);
        due("put(0, -1, 0)", x.put(0, -1, 0), INDEX);
        due("put(3, -1, 0)", x.put(3, -1, 0), NULL);
        due("put(4, 0, 0)", x.put(4, 0, 0), UNKNOWN);
        due("put(-1, 0, 0)", x.put(-1, 0, 0), UNKNOWN);
        promise = 48;
        long lost = Long.MIN_VALUE;
        due("cell(0, 59, 0)", x.cell(0, 59, 0), 44);
        due("cell(0, 0, 0)", x.cell(0, 0, 0), 0);
        due("cell(2, 2, 2)", x.cell(2, 2, 2), LEAST);
        due("fault()", x.fault(), 0);
        due("of another lane", x.cell(0, 99, 1), lost);
        due("fault()", x.fault(), 2);
        due("of nothing", x.cell(3, 99, 1), lost);
        due("fault()", x.fault(), 1);
        due("beyond", x.cell(0, 60, 0), lost);
        due("fault()", x.fault(), 3);
        due("below", x.cell(0, -1, 0), lost);
        due("cell(4, 0, 0)", x.cell(4, 0, 0), lost);
        due("fault()", x.fault(), 0);
        due("cell(0, 0, 3)", x.cell(0, 0, 3), lost);
        due("fault()", x.fault(), 0);
        promise = 47;
        x.sheet(1, 1, 2);
        int[] values = {128, 255, -129, 32768, 65535, -32769, GREATEST, LEAST};
        for (int i = 0; i < values.length; i++) {
            for (int lane = 0; lane < 3; lane++) {
                x.sheet(3, lane, 1);
                due("put", x.put(3, 0, values[i]), 1);
                due("cell", x.cell(3, 0, lane), lane == 0 ? (byte) values[i] : lane == 1 ? (short) values[i] : values[i]);
            }
        }
        promise = 45;
        x.put(1, 0, 7);
        due("a new row", x.sheet(1, 1, 2), 1);
        due("is empty", x.cell(1, 0, 1), 0);
        due("and of another lane", x.sheet(1, 0, 2), 1);
        due("then", x.cell(1, 0, 1), lost);
        copies();
        promise = 46;
        due("lose(0)", x.lose(0), 1);
        due("lose(0) again", x.lose(0), 0);
        due("lose(4)", x.lose(4), UNKNOWN);
        due("lose(-1)", x.lose(-1), UNKNOWN);
        due("nothing is there", x.put(0, 0, 0), NULL);
        due("lose leaves fault()", x.lose(0) + x.fault(), 1);
    }

    private static void copies() {
        promise = 49;
        ReasonDesk x = new ReasonDesk();
        due("of nothing", x.copy(0, -1, 1, 0, 0), NULL);
        x.sheet(0, 1, 6);
        for (int i = 0; i < 6; i++) x.put(0, i, 10 + i);
        due("to nothing", x.copy(0, 0, 1, 0, 1), NULL);
        due("fault()", x.fault(), 1);
        due("from nothing", x.copy(1, 0, 0, 0, 1), NULL);
        x.sheet(1, 1, 3);
        x.sheet(2, 2, 3);
        due("unlike lanes", x.copy(0, -1, 2, 0, 1), CAST);
        due("fault()", x.fault(), 2);
        due("copy", x.copy(0, 4, 1, 1, 2), 2);
        due("fault()", x.fault(), 0);
        due("cell", x.cell(1, 0, 1), 0);
        due("cell", x.cell(1, 1, 1), 14);
        due("cell", x.cell(1, 2, 1), 15);
        due("i below", x.copy(0, -1, 1, 0, 1), INDEX);
        due("fault()", x.fault(), 3);
        due("j below", x.copy(0, 0, 1, -1, 1), INDEX);
        due("n below", x.copy(0, 0, 1, 0, -1), INDEX);
        due("i beyond", x.copy(0, 5, 1, 0, 2), INDEX);
        due("j beyond", x.copy(0, 0, 1, 2, 2), INDEX);
        due("n beyond", x.copy(0, 0, 1, 0, GREATEST), INDEX);
        due("i far beyond", x.copy(0, GREATEST, 1, 0, GREATEST), INDEX);
        due("n LEAST", x.copy(0, 0, 1, 0, LEAST), INDEX);
        due("none, at the ends", x.copy(0, 6, 1, 3, 0), 0);
        due("none, beyond the end", x.copy(0, 7, 1, 3, 0), INDEX);
        due("no sheet", x.copy(4, 0, 1, 0, 0), UNKNOWN);
        due("no sheet", x.copy(0, 0, 4, 0, 0), UNKNOWN);
        due("no sheet", x.copy(0, 0, -1, 0, 0), UNKNOWN);
        due("fault()", x.fault(), 0);
        due("on itself, up", x.copy(0, 0, 0, 1, 5), 5);
        int[] up = {10, 10, 11, 12, 13, 14};
        for (int i = 0; i < 6; i++) due("cell", x.cell(0, i, 1), up[i]);
        due("on itself, down", x.copy(0, 2, 0, 0, 4), 4);
        int[] down = {11, 12, 13, 14, 13, 14};
        for (int i = 0; i < 6; i++) due("cell", x.cell(0, i, 1), down[i]);
    }

    private static void many() {
        promise = 52;
        ReasonDesk x = new ReasonDesk();
        say(x, "a", "b");
        x.hold(0, 0, 0, 10, 0);
        x.hold(1, 0, 5, 99, 0);
        x.rule(0, 0, 0, 0, 0);
        x.claim(0, 0);
        x.claim(1, 0);
        int[] first = {2, 2, 1, 1, 2, 0, 99, 128, 1};
        for (int what = 0; what < first.length; what++) due("many(" + what + ")", x.many(what), first[what]);
        x.view(7, 42);
        int[] then = {2, 2, 2, 1, 2, 7, 42, 64, 3};
        for (int what = 0; what < then.length; what++) due("many(" + what + ")", x.many(what), then[what]);
        due("many(9)", x.many(9), OUTSIDE);
        due("many(-1)", x.many(-1), OUTSIDE);
        due("many(LEAST)", x.many(LEAST), OUTSIDE);
        promise = 51;
        due("a new one's fault()", new ReasonDesk().fault(), 0);
    }

    // With all full the dearest calls still answer, and make next to nothing new.
    private static void full() {
        ReasonDesk x = new ReasonDesk();
        say(x, "a", "b", "c", "d", "e", "f", "-a", "-b", "-c", "-d", "-e", "-f", "1", "0");
        for (int e = 0; e < 12; e++) x.hold(e, e % 6, 0, 99, 0);
        for (int r = 0; r < 10; r++) x.rule(r % 3, 12, r, (r + 6) % 12, r);
        for (int c = 0; c < 12; c++) x.claim(c, c % 6);
        promise = 16;
        due("harmonies(0)", x.harmonies(0), 64);
        promise = 33;
        due("preferred", x.sets(1), 64);
        due("sound", x.sets(0), 729);
        promise = 27;
        x.view(0, 0);
        for (int e = 0; e < 12; e++) x.drop(e, 0);
        due("four contraries", x.extensions(0), 16);
        due("the best", x.extensions(1), 1);
        promise = 28;
        due("those of the least rank", x.extension(1, 0), 63);
    }
}
