import java.util.Arrays;

// Reasons held: sentences, a book of them, rules, claims, merging; all by the 256 worlds of eight letters.
public final class ReasonDesk {
    public static final int UNKNOWN = -1, OUTSIDE = -2, STATE = -3, FULL = -4, NONE = -9;
    public static final long LOST = Long.MIN_VALUE;

    private static final int SENTENCES = 60, WORLDS = 256, SOURCES = 6, LATEST = 99;
    private static final int ENTRIES = 12, RULES = 10, CLAIMS = 12;
    private static final int HOLDS = 6, SHEETS = 4, CELLS = 60, LANES = 3;
    private static final int NULL = 1, CAST = 2, INDEX = 3, SIZE = 4;
    private static final int NOTHING = -1;

    private final Bits[] sentences;
    private int sentenceCount;
    private final Bits contrary;
    private final Bits scratch;
    private final Reader reader;
    private final Book book;
    private final Rules rules;
    private final Claims claims;
    private final Merging merging;
    private final Thing[] things;
    private final int[][] cells;
    private final int[] lanes;
    private final int[] sizes;
    private final int[] trail;
    private int lastFault;

    public ReasonDesk() {
        sentences = rowOfBits(SENTENCES);
        contrary = new Bits(WORLDS);
        scratch = new Bits(WORLDS);
        reader = new Reader();
        book = new Book();
        rules = new Rules();
        claims = new Claims();
        merging = new Merging();
        things = new Thing[HOLDS];
        cells = new int[SHEETS][CELLS];
        lanes = new int[SHEETS];
        Arrays.fill(lanes, NOTHING);
        sizes = new int[SHEETS];
        trail = new int[1];
    }

    // ---- 1 sentences

    public int read(int k, int lane, int i, int n) {
        lastFault = 0;
        if (!isSheet(k)) return UNKNOWN;
        if (!isLane(lane)) return OUTSIDE;
        if (lanes[k] != NOTHING && lanes[k] != lane) return faulted(CAST);
        if (lanes[k] == NOTHING) return faulted(NULL);
        if (n < 0) return faulted(SIZE);
        if (i < 0 || i > sizes[k] - n) return faulted(INDEX);
        if (sentenceCount >= sentences.length) return FULL;
        int wrong = reader.firstFault(cells[k], i, n);
        if (wrong >= 0) return -100 - wrong;
        sentences[sentenceCount].become(reader.valueOf(cells[k], i, n));
        return newSentence();
    }

    public int make(int how, int a, int b) {
        if (how < 0 || how > 4) return OUTSIDE;
        Bits first = sentenceAt(a);
        Bits second = how == 0 ? first : sentenceAt(b);
        if (first == null || second == null) return UNKNOWN;
        if (sentenceCount >= sentences.length) return FULL;
        Bits made = sentences[sentenceCount];
        made.become(first);
        switch (how) {
            case 0: made.turn(); break;
            case 1: made.meet(second); break;
            case 2: made.join(second); break;
            case 3: made.imply(second); break;
            default: made.match(second); break;
        }
        return newSentence();
    }

    public int worlds(int s) {
        Bits where = sentenceAt(s);
        return where == null ? UNKNOWN : where.size();
    }

    public int truth(int s, int w) {
        Bits where = sentenceAt(s);
        if (where == null || !isWorld(w)) return UNKNOWN;
        return where.has(w) ? 1 : 0;
    }

    public int compare(int a, int b) {
        Bits first = sentenceAt(a), second = sentenceAt(b);
        if (first == null || second == null) return UNKNOWN;
        boolean there = first.within(second), back = second.within(first);
        if (there && back) return 3;
        if (there) return 1;
        if (back) return 2;
        return first.apart(second) ? 4 : 0;
    }

    public int trust(int source, int v) {
        if (!isSource(source)) return UNKNOWN;
        if (v < 1 || v > 9) return OUTSIDE;
        int was = book.trusted[source];
        book.trusted[source] = v;
        return was;
    }

    // ---- 2 the book

    public int hold(int s, int source, int from, int to, int known) {
        Bits where = sentenceAt(s);
        if (where == null || !isSource(source)) return UNKNOWN;
        if (!isTime(from) || !isTime(to) || from > to || !isTime(known)) return OUTSIDE;
        if (book.isFull()) return FULL;
        return book.keep(new Entry(book.count, s, source, from, to, known), where);
    }

    public int view(int t, int k) {
        if (!isTime(t) || !isTime(k)) return OUTSIDE;
        book.time = t;
        book.asKnown = k;
        return Integer.bitCount(book.inView());
    }

    public int entry(int e, int what) {
        Entry there = book.entryAt(e);
        if (there == null) return UNKNOWN;
        switch (what) {
            case 0: return there.sentence;
            case 1: return there.source;
            case 2: return there.from;
            case 3: return there.to;
            case 4: return there.known;
            case 5: return there.givenUp;
            case 6: return book.inView() >> e & 1;
            case 7: return book.free() >> e & 1;
            case 8: return book.concord().sharing(e);
            default: return OUTSIDE;
        }
    }

    public int drop(int e, int at) {
        Entry there = book.entryAt(e);
        if (there == null) return UNKNOWN;
        if (at != NONE && !isTime(at)) return OUTSIDE;
        int was = there.givenUp;
        there.givenUp = at;
        return was;
    }

    public int weight(int set) {
        return book.areEntries(set) ? book.weigh(set) : OUTSIDE;
    }

    public int together(int set) {
        if (!book.areEntries(set)) return OUTSIDE;
        book.gather(set, scratch);
        return scratch.size();
    }

    public int reasons(int s, int way) {
        Bits where = sentenceAt(s);
        if (where == null) return UNKNOWN;
        if (way < 0 || way > 1) return OUTSIDE;
        return book.reasonsFor(inWay(where, way)).size();
    }

    public int reason(int s, int way, int i) {
        Bits where = sentenceAt(s);
        if (where == null) return UNKNOWN;
        int found = book.reasonsFor(inWay(where, way)).at(i);
        if (found < 0) return UNKNOWN;
        return way < 0 || way > 1 ? OUTSIDE : found;
    }

    public int harmonies(int what) {
        switch (what) {
            case 0: return book.concord().size();
            case 1: return book.bestConcord().size();
            case 2: return book.bestWeight();
            case 3: return book.free();
            default: return OUTSIDE;
        }
    }

    public int harmony(int what, int i) {
        Bits of = what == 1 ? book.bestConcord() : book.concord();
        int found = of.at(i);
        if (found < 0) return UNKNOWN;
        return what < 0 || what > 1 ? OUTSIDE : found;
    }

    public int held(int s, int sense) {
        Bits where = sentenceAt(s);
        if (where == null) return UNKNOWN;
        if (sense < 0 || sense > 4) return OUTSIDE;
        return book.upholds(where, sense) ? 1 : 0;
    }

    public int cuts(int s) {
        Bits where = sentenceAt(s);
        return where == null ? UNKNOWN : book.cutsFor(where).size();
    }

    public int cutOf(int s, int i) {
        Bits where = sentenceAt(s);
        if (where == null) return UNKNOWN;
        int found = book.cutsFor(where).at(i);
        return found < 0 ? UNKNOWN : found;
    }

    public int least(int s) {
        Bits where = sentenceAt(s);
        if (where == null) return UNKNOWN;
        return where.isAll() ? STATE : book.leastCut(where);
    }

    public int giveUp(int s) {
        int cut = least(s);
        if (cut > 0) book.abandon(cut);
        return cut;
    }

    public int news(int s, int source) {
        Bits where = sentenceAt(s);
        if (where == null || !isSource(source)) return UNKNOWN;
        if (where.isEmpty()) return STATE;
        if (book.isFull()) return FULL;
        book.abandon(book.leastCut(inWay(where, 1)));
        return book.keep(new Entry(book.count, s, source, book.time, LATEST, book.asKnown), where);
    }

    public int postulate(int s, int which) {
        Bits where = sentenceAt(s);
        if (where == null) return UNKNOWN;
        if (which < 0 || which > 3) return OUTSIDE;
        if (where.isAll()) return STATE;
        return book.keeps(where, which) ? 1 : 0;
    }

    // ---- 3 rules

    public int rule(int kind, int s, int then, int unless, int rank) {
        if (kind < 0 || kind > 2) return OUTSIDE;
        Bits first = sentenceAt(s), second = sentenceAt(then), third = sentenceAt(unless);
        if (first == null || second == null || third == null) return UNKNOWN;
        if (rank < 0 || rank > 9) return OUTSIDE;
        if (rules.isFull()) return FULL;
        int number = rules.count;
        Rule made;
        if (kind == 0) made = new Rule(number, s, then, unless, rank);
        else if (kind == 1) made = new Barred(number, s, then, unless, rank);
        else made = new Loose(number, s, then, unless, rank);
        return rules.keep(made, first, second, third);
    }

    public int ruled(int r, int what) {
        Rule there = rules.ruleAt(r);
        if (there == null) return UNKNOWN;
        rules.settle(book);
        switch (what) {
            case 0: return there instanceof Loose ? 2 : there instanceof Barred ? 1 : 0;
            case 1: return there.when;
            case 2: return there.then;
            case 3: return there.unless;
            case 4: return there.rank;
            case 5: return rules.goesOfBase(r) ? 1 : 0;
            case 6: return rules.found().sharing(r);
            case 7: return rules.circle(r);
            case 8: return rules.barredBy(r);
            default: return OUTSIDE;
        }
    }

    public int extensions(int what) {
        rules.settle(book);
        switch (what) {
            case 0: return rules.found().size();
            case 1: return rules.bestFound().size();
            case 2: return rules.base.size();
            default: return OUTSIDE;
        }
    }

    public int extension(int what, int i) {
        rules.settle(book);
        Bits of = what == 1 ? rules.bestFound() : rules.found();
        int found = of.at(i);
        if (found < 0) return UNKNOWN;
        if (what < 0 || what > 2) return OUTSIDE;
        return what == 2 ? rules.worldsOf(found).size() : found;
    }

    public int concluded(int s, int sense) {
        Bits where = sentenceAt(s);
        if (where == null) return UNKNOWN;
        if (sense < 0 || sense > 2) return OUTSIDE;
        rules.settle(book);
        if (rules.found().isEmpty()) return NONE;
        Bits of = sense == 2 ? rules.bestFound() : rules.found();
        int agreeing = rules.following(where, of);
        return (sense == 1 ? agreeing > 0 : agreeing == of.size()) ? 1 : 0;
    }

    // ---- 4 claims

    public int claim(int s, int source) {
        Bits where = sentenceAt(s);
        if (where == null || !isSource(source)) return UNKNOWN;
        return claims.isFull() ? FULL : claims.keep(s, source, where);
    }

    public int strikes(int a, int b) {
        if (!claims.isClaim(a) || !claims.isClaim(b)) return UNKNOWN;
        claims.settle(book.trusted);
        return claims.strikers[b] >> a & 1;
    }

    public int claimed(int c, int what) {
        if (!claims.isClaim(c)) return UNKNOWN;
        claims.settle(book.trusted);
        boolean stands = (claims.standing >> c & 1) == 1;
        switch (what) {
            case 0: return claims.said[c];
            case 1: return claims.sources[c];
            case 2: return stands ? claims.rounds[c] : NONE;
            case 3: return stands ? 2 : (claims.strikers[c] & claims.standing) == 0 ? 1 : 0;
            case 4: claims.seek(); return claims.preferred.sharing(c);
            case 5: claims.seek(); return claims.stable.sharing(c);
            case 6: return claims.answerTo(c);
            // A way to win is a tree of answers whose last ones none strikes: by rounds from
            // these on each claim of the first one stands. And who stands is won: answer by
            // strikers of ever lesser rounds, none of which comes twice.
            case 7: return stands ? 1 : 0;
            default: return OUTSIDE;
        }
    }

    public int sets(int what) {
        if (what < 0 || what > 3) return OUTSIDE;
        claims.settle(book.trusted);
        if (what == 3) return claims.standing;
        claims.seek();
        return (what == 0 ? claims.sound : what == 1 ? claims.preferred : claims.stable).size();
    }

    public int setOf(int what, int i) {
        claims.settle(book.trusted);
        claims.seek();
        int found = (what == 2 ? claims.stable : claims.preferred).at(i);
        if (found < 0) return UNKNOWN;
        return what < 1 || what > 2 ? OUTSIDE : found;
    }

    // ---- 5 merging

    public int parts() {
        merging.settle(book);
        return Integer.bitCount(merging.taking);
    }

    public int far(int w, int source) {
        if (!isWorld(w) || !isSource(source)) return UNKNOWN;
        merging.settle(book);
        return (merging.taking >> source & 1) == 0 ? STATE : merging.fars[source][w];
    }

    public int merged(int law) {
        return isLaw(law) ? merging.chosen(law, book).size() : OUTSIDE;
    }

    public int mergedWorld(int law, int i) {
        if (!isLaw(law)) return OUTSIDE;
        int found = merging.chosen(law, book).at(i);
        return found < 0 ? UNKNOWN : found;
    }

    public int agreed(int s, int law) {
        Bits where = sentenceAt(s);
        if (where == null) return UNKNOWN;
        if (!isLaw(law)) return OUTSIDE;
        return merging.chosen(law, book).within(where) ? 1 : 0;
    }

    // ---- 6 holds, sheets

    public int take(int k, int what, int n) {
        if (!isHold(k)) return UNKNOWN;
        if (what < 0 || what > 1) return OUTSIDE;
        Thing there = book.entryAt(n);
        if (what == 1) there = rules.ruleAt(n);
        if (there == null) return UNKNOWN;
        things[k] = there;
        return 1;
    }

    public int loose(int k) {
        if (!isHold(k)) return UNKNOWN;
        boolean had = things[k] != null;
        things[k] = null;
        return had ? 1 : 0;
    }

    public int as(int k, int kind) {
        lastFault = 0;
        if (!isHold(k)) return UNKNOWN;
        if (kind < 0 || kind > 3) return OUTSIDE;
        Thing there = things[k];
        if (there == null) return faulted(NULL);
        return isOfKind(there, kind) ? there.number : faulted(CAST);
    }

    public int tell(int k) {
        lastFault = 0;
        if (!isHold(k)) return UNKNOWN;
        Thing there = things[k];
        return there == null ? faulted(NULL) : there.told(trail);
    }

    public int show(int k) {
        lastFault = 0;
        if (!isHold(k)) return UNKNOWN;
        Thing there = things[k];
        if (there == null) return faulted(NULL);
        if (there instanceof Rule one) return one.shown(trail);
        return faulted(CAST);
    }

    public int sheet(int k, int lane, int n) {
        lastFault = 0;
        if (!isSheet(k)) return UNKNOWN;
        if (!isLane(lane) || n > CELLS) return OUTSIDE;
        if (n < 0) return faulted(SIZE);
        lanes[k] = lane;
        sizes[k] = n;
        Arrays.fill(cells[k], 0);
        return 1;
    }

    public int lose(int k) {
        if (!isSheet(k)) return UNKNOWN;
        boolean had = lanes[k] != NOTHING;
        lanes[k] = NOTHING;
        return had ? 1 : 0;
    }

    public int put(int k, int i, int v) {
        lastFault = 0;
        if (!isSheet(k)) return UNKNOWN;
        if (lanes[k] == NOTHING) return faulted(NULL);
        if (i < 0 || i >= sizes[k]) return faulted(INDEX);
        cells[k][i] = cut(v, lanes[k]);
        return 1;
    }

    public long cell(int k, int i, int lane) {
        lastFault = 0;
        if (!isSheet(k) || !isLane(lane)) return LOST;
        if (lanes[k] == NOTHING) lastFault = NULL;
        else if (lanes[k] != lane) lastFault = CAST;
        else if (i < 0 || i >= sizes[k]) lastFault = INDEX;
        else return cells[k][i];
        return LOST;
    }

    public int copy(int k, int i, int other, int j, int n) {
        lastFault = 0;
        if (!isSheet(k) || !isSheet(other)) return UNKNOWN;
        if (lanes[k] == NOTHING || lanes[other] == NOTHING) return faulted(NULL);
        if (lanes[k] != lanes[other]) return faulted(CAST);
        if (i < 0 || j < 0 || n < 0) return faulted(INDEX);
        if (i > sizes[k] - n || j > sizes[other] - n) return faulted(INDEX);
        System.arraycopy(cells[k], i, cells[other], j, n);
        return n;
    }

    public int trace() {
        return trail[0];
    }

    public int fault() {
        return lastFault;
    }

    public int many(int what) {
        switch (what) {
            case 0: return sentenceCount;
            case 1: return book.count;
            case 2: return Integer.bitCount(book.inView());
            case 3: return rules.count;
            case 4: return claims.count;
            case 5: return book.time;
            case 6: return book.asKnown;
            case 7: return together(book.inView());
            case 8: return book.inView();
            default: return OUTSIDE;
        }
    }

    private static boolean isWorld(int w) {
        return w >= 0 && w < WORLDS;
    }

    private static boolean isSource(int source) {
        return source >= 0 && source < SOURCES;
    }

    private static boolean isTime(int t) {
        return t >= 0 && t <= LATEST;
    }

    private static boolean isLaw(int law) {
        return law >= 0 && law <= 2;
    }

    private static boolean isLane(int lane) {
        return lane >= 0 && lane < LANES;
    }

    private static boolean isHold(int k) {
        return k >= 0 && k < HOLDS;
    }

    private static boolean isSheet(int k) {
        return k >= 0 && k < SHEETS;
    }

    private static boolean isOfKind(Thing there, int kind) {
        switch (kind) {
            case 0: return there instanceof Entry;
            case 1: return there instanceof Rule;
            case 2: return there instanceof Barred;
            default: return there instanceof Loose;
        }
    }

    private static int cut(int v, int lane) {
        return lane == 0 ? (byte) v : lane == 1 ? (short) v : v;
    }

    private static Bits[] rowOfBits(int length) {
        Bits[] row = new Bits[Math.max(length, 0)];
        for (int i = 0; i < row.length; i++) row[i] = new Bits(WORLDS);
        return row;
    }

    private Bits sentenceAt(int s) {
        return s >= 0 && s < sentenceCount && s < sentences.length ? sentences[s] : null;
    }

    private int newSentence() {
        int number = sentenceCount;
        sentenceCount++;
        return number;
    }

    // The sentence itself, or (way 1) its contrary.
    private Bits inWay(Bits where, int way) {
        if (way != 1) return where;
        contrary.become(where);
        contrary.turn();
        return contrary;
    }

    private int faulted(int kind) {
        lastFault = kind;
        return -10 - kind;
    }

    // A set of numbers below 256 (worlds), or a set of sets: a set's bits as a number are its place in it.
    private static final class Bits {
        // The places below 64 whose numbers have bit 0, 1, .. 5.
        private static final long[] WITH = {
            0xAAAAAAAAAAAAAAAAL, 0xCCCCCCCCCCCCCCCCL, 0xF0F0F0F0F0F0F0F0L,
            0xFF00FF00FF00FF00L, 0xFFFF0000FFFF0000L, 0xFFFFFFFF00000000L};

        final long[] rows;

        Bits(int places) {
            rows = new long[Math.max(1, places >> 6)];
        }

        void clear() {
            Arrays.fill(rows, 0L);
        }

        void fillUp() {
            Arrays.fill(rows, -1L);
        }

        // All places whose number has bit k.
        void fillWith(int k) {
            for (int r = 0; r < rows.length; r++) {
                if (k >= 0 && k < WITH.length) rows[r] = WITH[k];
                else rows[r] = (r >> (k - 6) & 1) == 1 ? -1L : 0L;
            }
        }

        void become(Bits of) {
            int shared = Math.min(rows.length, of.rows.length);
            System.arraycopy(of.rows, 0, rows, 0, shared);
        }

        void turn() {
            for (int r = 0; r < rows.length; r++) rows[r] = ~rows[r];
        }

        void meet(Bits of) {
            for (int r = 0; r < rows.length && r < of.rows.length; r++) rows[r] &= of.rows[r];
        }

        void join(Bits of) {
            for (int r = 0; r < rows.length && r < of.rows.length; r++) rows[r] |= of.rows[r];
        }

        void imply(Bits of) {
            turn();
            join(of);
        }

        void match(Bits of) {
            for (int r = 0; r < rows.length && r < of.rows.length; r++) rows[r] = ~(rows[r] ^ of.rows[r]);
        }

        void add(int place) {
            int r = place >> 6;
            if (r >= 0 && r < rows.length) rows[r] |= 1L << (place & 63);
        }

        boolean has(int place) {
            int r = place >> 6;
            return r >= 0 && r < rows.length && (rows[r] >>> (place & 63) & 1L) == 1L;
        }

        int size() {
            int sum = 0;
            for (int r = 0; r < rows.length; r++) sum += Long.bitCount(rows[r]);
            return sum;
        }

        boolean isEmpty() {
            for (int r = 0; r < rows.length; r++) if (rows[r] != 0L) return false;
            return true;
        }

        boolean isAll() {
            for (int r = 0; r < rows.length; r++) if (rows[r] != -1L) return false;
            return true;
        }

        boolean within(Bits of) {
            for (int r = 0; r < rows.length && r < of.rows.length; r++)
                if ((rows[r] & ~of.rows[r]) != 0L) return false;
            return true;
        }

        boolean apart(Bits of) {
            for (int r = 0; r < rows.length && r < of.rows.length; r++)
                if ((rows[r] & of.rows[r]) != 0L) return false;
            return true;
        }

        // Whether a place here is in the first and not in the other.
        boolean meetsBut(Bits in, Bits out) {
            for (int r = 0; r < rows.length && r < in.rows.length && r < out.rows.length; r++)
                if ((rows[r] & in.rows[r] & ~out.rows[r]) != 0L) return true;
            return false;
        }

        // The i-th place, or -1.
        int at(int i) {
            int left = i;
            for (int r = 0; r < rows.length && left >= 0; r++) {
                long row = rows[r];
                int here = Long.bitCount(row);
                if (left < here) {
                    for (; left > 0; left--) row &= row - 1;
                    return (r << 6) + lowest(row);
                }
                left -= here;
            }
            return -1;
        }

        // The first place above one, or -1.
        int after(int place) {
            int from = place + 1;
            if (from < 0) return -1;
            for (int r = from >> 6; r < rows.length; r++) {
                long row = r == from >> 6 ? rows[r] & -1L << (from & 63) : rows[r];
                if (row != 0L) return (r << 6) + lowest(row);
            }
            return -1;
        }

        private static int lowest(long row) {
            return Long.bitCount(~row & row - 1);
        }

        // How many of these sets have element k.
        int sharing(int k) {
            int sum = 0;
            for (int r = 0; r < rows.length; r++) {
                if (k >= 0 && k < WITH.length) sum += Long.bitCount(rows[r] & WITH[k]);
                else if ((r >> (k - 6) & 1) == 1) sum += Long.bitCount(rows[r]);
            }
            return sum;
        }

        // Row r of the sets that are one of these less its element k.
        private long lowered(int k, int r) {
            if (k >= 0 && k < WITH.length) return (rows[r] & WITH[k]) >>> (1 << k);
            int above = r + (1 << (k - 6));
            return (r >> (k - 6) & 1) == 0 && above < rows.length ? rows[above] : 0L;
        }

        // Row r of the sets that are one of these, which lacks element k, and this.
        private long raised(int k, int r) {
            if (k >= 0 && k < WITH.length) return (rows[r] & ~WITH[k]) << (1 << k);
            int below = r - (1 << (k - 6));
            return (r >> (k - 6) & 1) == 1 && below >= 0 ? rows[below] : 0L;
        }

        // All parts of these sets come to them.
        void closeDown(int elements) {
            for (int k = 0; k < elements; k++)
                for (int r = 0; r < rows.length; r++) rows[r] |= lowered(k, r);
        }

        // All sets that have one of these as a part come to them.
        void closeUp(int elements) {
            for (int k = 0; k < elements; k++)
                for (int r = 0; r < rows.length; r++) rows[r] |= raised(k, r);
        }

        // The greatest sets of those that have all their parts with them.
        void becomeTops(Bits of, int elements) {
            become(of);
            for (int k = 0; k < elements; k++)
                for (int r = 0; r < rows.length && r < of.rows.length; r++) rows[r] &= ~of.lowered(k, r);
        }

        // The least sets of those that have with each all greater ones.
        void becomeLows(Bits of, int elements) {
            become(of);
            for (int k = 0; k < elements; k++)
                for (int r = 0; r < rows.length && r < of.rows.length; r++) rows[r] &= ~of.raised(k, r);
        }
    }

    // Reads texts: where the first fault is, and in which worlds a text without one is true.
    private static final class Reader {
        private final int[] marks = new int[CELLS];
        private final Bits[] values = rowOfBits(CELLS / 2 + 2);
        private int markCount;
        private int valueCount;

        // The place of the first fault, counted from 0 at the first cell of the text; -1: none.
        int firstFault(int[] row, int from, int n) {
            boolean wanting = true;
            int open = 0;
            for (int i = 0; i < n; i++) {
                int place = from + i;
                int code = place >= 0 && place < row.length ? row[place] : 0;
                if (wanting) {
                    if (code == '(') open++;
                    else if (isOperand(code)) wanting = false;
                    else if (code != '-') return i;
                } else if (rank(code) > 0) {
                    wanting = true;
                } else if (code == ')' && open > 0) {
                    open--;
                } else {
                    return i;
                }
            }
            return wanting || open > 0 ? n : -1;
        }

        Bits valueOf(int[] row, int from, int n) {
            markCount = 0;
            valueCount = 0;
            for (int place = Math.max(from, 0); place < from + n && place < row.length; place++) {
                int code = row[place];
                int rank = rank(code);
                if (rank > 0) {
                    // of ifs in a row the last one binds first
                    bind(Math.max(rank, 2));
                    mark(code);
                } else if (code == '(' || code == '-') {
                    mark(code);
                } else {
                    if (code == ')') closeBracket();
                    else operand(code);
                    turnAsMarked();
                }
            }
            bind(1);
            return values[0];
        }

        private static boolean isOperand(int code) {
            return code >= 'a' && code <= 'h' || code == '0' || code == '1';
        }

        private static int rank(int code) {
            return code == '&' ? 3 : code == '|' ? 2 : code == '>' ? 1 : 0;
        }

        private void mark(int code) {
            if (markCount >= marks.length) return;
            marks[markCount] = code;
            markCount++;
        }

        private void operand(int code) {
            if (valueCount >= values.length) return;
            Bits value = values[valueCount];
            valueCount++;
            if (code == '1') value.fillUp();
            else if (code == '0') value.clear();
            else value.fillWith(code - 'a');
        }

        // What a minus sign stands before has just been read.
        private void turnAsMarked() {
            while (markCount > 0 && marks[markCount - 1] == '-') {
                markCount--;
                if (valueCount > 0) values[valueCount - 1].turn();
            }
        }

        private void closeBracket() {
            bind(1);
            if (markCount > 0) markCount--;
        }

        // Works off the waiting signs that bind as strongly as this, or more.
        private void bind(int least) {
            while (markCount > 0 && rank(marks[markCount - 1]) >= least) {
                markCount--;
                if (valueCount > 1) apply(marks[markCount]);
            }
        }

        private void apply(int code) {
            if (valueCount < 2) return;
            valueCount--;
            Bits left = values[valueCount - 1], right = values[valueCount];
            if (code == '&') left.meet(right);
            else if (code == '|') left.join(right);
            else left.imply(right);
        }
    }

    // What a hold may have. Bodies leave their numbers in a trail of one cell.
    private abstract static class Thing {
        final int number;

        Thing(int number) {
            this.number = number;
        }

        abstract int told(int[] trail);

        static void mark(int[] trail, int body) {
            if (trail.length > 0) trail[0] = 31 * trail[0] + body;
        }
    }

    private static final class Entry extends Thing {
        final int sentence;
        final int source;
        final int from;
        final int to;
        final int known;
        int givenUp;

        Entry(int number, int sentence, int source, int from, int to, int known) {
            super(number);
            this.sentence = sentence;
            this.source = source;
            this.from = from;
            this.to = to;
            this.known = known;
            givenUp = NONE;
        }

        int told(int[] trail) {
            mark(trail, 1);
            return sentence;
        }
    }

    private static class Rule extends Thing {
        final int when;
        final int then;
        final int unless;
        final int rank;

        Rule(int number, int when, int then, int unless, int rank) {
            super(number);
            this.when = when;
            this.then = then;
            this.unless = unless;
            this.rank = rank;
        }

        int told(int[] trail) {
            return plainly(trail);
        }

        // A rule's own body, which those of other kinds use past one another.
        final int plainly(int[] trail) {
            mark(trail, 2);
            return then;
        }

        int shown(int[] trail) {
            mark(trail, 5);
            return number;
        }
    }

    private static class Barred extends Rule {
        Barred(int number, int when, int then, int unless, int rank) {
            super(number, when, then, unless, rank);
        }

        int told(int[] trail) {
            mark(trail, 3);
            return plainly(trail) + unless;
        }

        int shown(int[] trail) {
            mark(trail, 6);
            return 100 + super.shown(trail);
        }
    }

    private static final class Loose extends Barred {
        Loose(int number, int when, int then, int unless, int rank) {
            super(number, when, then, unless, rank);
        }

        int told(int[] trail) {
            mark(trail, 4);
            return -plainly(trail) - 1;
        }

        int shown(int[] trail) {
            mark(trail, 7);
            return 1000 + super.shown(trail);
        }
    }

    // Entries, the view of them, and what follows of sets of them. A set of entries is true in a
    // world just if it is within the set of all that are true there: so the 256 sets of these tell all.
    private static final class Book {
        private static final int ALL = (1 << ENTRIES) - 1;

        final int[] trusted = new int[SOURCES];
        int count;
        int time;
        int asKnown = LATEST;
        private final Entry[] entries = new Entry[ENTRIES];
        private final int[] trueIn = new int[WORLDS];
        private final Bits nowhere = new Bits(WORLDS);
        private final Bits family = new Bits(1 << ENTRIES);
        private final Bits lows = new Bits(1 << ENTRIES);
        private final Bits harmonious = new Bits(1 << ENTRIES);
        private final Bits best = new Bits(1 << ENTRIES);
        private int harmonyView = NOTHING;

        Book() {
            Arrays.fill(trusted, 5);
        }

        boolean isFull() {
            return count >= entries.length;
        }

        int keep(Entry entry, Bits where) {
            if (count >= entries.length) return FULL;
            for (int w = 0; w < WORLDS; w++) if (where.has(w)) trueIn[w] |= 1 << count;
            entries[count] = entry;
            count++;
            return entry.number;
        }

        Entry entryAt(int e) {
            return e >= 0 && e < count && e < entries.length ? entries[e] : null;
        }

        boolean areEntries(int set) {
            return (set & ~((1 << count) - 1)) == 0;
        }

        int trueAt(int w) {
            return w >= 0 && w < trueIn.length ? trueIn[w] : 0;
        }

        int inView() {
            int set = 0;
            for (int e = 0; e < count; e++) {
                Entry entry = entryAt(e);
                if (entry == null || entry.from > time || entry.to < time || entry.known > asKnown) continue;
                if (entry.givenUp == NONE || entry.givenUp > asKnown) set |= 1 << e;
            }
            return set;
        }

        // Those of a set that are by a source.
        int bySource(int set, int source) {
            int some = 0;
            for (int e = 0; e < count; e++) {
                Entry entry = entryAt(e);
                if (entry != null && entry.source == source) some |= set & 1 << e;
            }
            return some;
        }

        int weigh(int set) {
            int sum = 0;
            for (int e = 0; e < count; e++) {
                Entry entry = entryAt(e);
                if ((set >> e & 1) == 1 && entry != null && isSource(entry.source)) sum += trusted[entry.source];
            }
            return sum;
        }

        void abandon(int set) {
            for (int e = 0; e < count; e++) {
                Entry entry = entryAt(e);
                if ((set >> e & 1) == 1 && entry != null) entry.givenUp = asKnown;
            }
        }

        void gather(int set, Bits into) {
            into.clear();
            for (int w = 0; w < WORLDS; w++) if ((set & ~trueIn[w]) == 0) into.add(w);
        }

        boolean follows(Bits s, int set) {
            for (int w = 0; w < WORLDS; w++) if ((set & ~trueIn[w]) == 0 && !s.has(w)) return false;
            return true;
        }

        // Of each world but some: the entries in view that are true there, with some turned.
        private void collect(Bits but, int view, int turned) {
            family.clear();
            for (int w = 0; w < WORLDS; w++) if (!but.has(w)) family.add(trueIn[w] & view ^ turned);
        }

        // It does not follow of a set just if this is within what is true in one of the worlds
        // where it is not: the least ones of all other sets are its reasons.
        Bits reasonsFor(Bits s) {
            int view = inView();
            collect(s, view, ALL & ~view);
            family.closeDown(ENTRIES);
            family.turn();
            lows.becomeLows(family, ENTRIES);
            return lows;
        }

        // What has to go so that a world where it is not true is left, and all that has more.
        Bits cutsFor(Bits s) {
            int view = inView();
            collect(s, view, view);
            family.closeUp(ENTRIES);
            lows.becomeLows(family, ENTRIES);
            return lows;
        }

        // The harmonies; an entry's sentence never changes, so they change with the view alone.
        Bits concord() {
            int view = inView();
            if (view == harmonyView) return harmonious;
            harmonyView = view;
            collect(nowhere, view, 0);
            family.closeDown(ENTRIES);
            harmonious.becomeTops(family, ENTRIES);
            return harmonious;
        }

        int bestWeight() {
            Bits of = concord();
            int most = 0, set = -1;
            for (int left = of.size(); left > 0; left--) {
                set = of.after(set);
                most = Math.max(most, weigh(set));
            }
            return most;
        }

        Bits bestConcord() {
            Bits of = concord();
            int most = bestWeight(), set = -1;
            best.clear();
            for (int left = of.size(); left > 0; left--) {
                set = of.after(set);
                if (weigh(set) == most) best.add(set);
            }
            return best;
        }

        int free() {
            Bits of = concord();
            int set = -1, common = inView();
            for (int left = of.size(); left > 0; left--) {
                set = of.after(set);
                common &= set;
            }
            return common;
        }

        // A harmony is just what is true in each of its worlds: so it does not follow of those
        // that are found in worlds where it is not true, and follows of all others.
        boolean upholds(Bits s, int sense) {
            if (sense == 0) return follows(s, inView());
            if (sense == 4) return follows(s, free());
            Bits of = sense == 3 ? bestConcord() : concord();
            collect(s, inView(), 0);
            return sense == 2 ? !of.within(family) : of.apart(family);
        }

        int leastCut(Bits s) {
            Bits of = cutsFor(s);
            int least = 0, set = -1, lightest = Integer.MAX_VALUE;
            for (int left = of.size(); left > 0; left--) {
                set = of.after(set);
                int cost = weigh(set) * 16 + Integer.bitCount(set);
                if (cost < lightest) {
                    lightest = cost;
                    least = set;
                }
            }
            return least;
        }

        boolean keeps(Bits s, int which) {
            int view = inView(), cut = leastCut(s);
            switch (which) {
                case 0: return !follows(s, view & ~cut);
                case 1: return follows(s, view) || cut == 0;
                case 2: return (cut & ~ofReasons(s)) == 0;
                default: return recovers(s, view, cut);
            }
        }

        private int ofReasons(Bits s) {
            Bits of = reasonsFor(s);
            int set = -1, some = 0;
            for (int left = of.size(); left > 0; left--) {
                set = of.after(set);
                some |= set;
            }
            return some;
        }

        // No world that is left, with the sentence taken in again, was not one of all in view.
        private boolean recovers(Bits s, int view, int cut) {
            int kept = view & ~cut;
            for (int w = 0; w < WORLDS; w++)
                if (s.has(w) && (kept & ~trueIn[w]) == 0 && (view & ~trueIn[w]) != 0) return false;
            return true;
        }
    }

    // Rules over the worlds of all entries in view.
    private static final class Rules {
        final Bits base = new Bits(WORLDS);
        int count;
        private final Rule[] rules = new Rule[RULES];
        private final Bits[] whens = rowOfBits(RULES);
        private final Bits[] thens = rowOfBits(RULES);
        private final Bits[] unlesses = rowOfBits(RULES);
        private final Bits within = new Bits(WORLDS);
        private final Bits ahead = new Bits(WORLDS);
        private final Bits extended = new Bits(1 << RULES);
        private final Bits best = new Bits(1 << RULES);
        private int baseView = NOTHING;
        private int foundCount = NOTHING;

        boolean isFull() {
            return count >= rules.length;
        }

        Rule ruleAt(int r) {
            return r >= 0 && r < count && r < rules.length ? rules[r] : null;
        }

        int keep(Rule rule, Bits when, Bits then, Bits unless) {
            if (count >= rules.length) return FULL;
            rules[count] = rule;
            whens[count].become(when);
            thens[count].become(then);
            unlesses[count].become(unless);
            count++;
            return rule.number;
        }

        // The base changes with the view alone, as an entry's sentence never changes.
        void settle(Book book) {
            int view = book.inView();
            if (view == baseView) return;
            baseView = view;
            foundCount = NOTHING;
            book.gather(view, base);
        }

        Bits worldsOf(int set) {
            within.become(base);
            for (int r = 0; r < count && r < thens.length; r++) if ((set >> r & 1) == 1) within.meet(thens[r]);
            return within;
        }

        private boolean goes(int r, Bits of) {
            if (r < 0 || r >= whens.length) return false;
            return of.within(whens[r]) && of.meetsBut(thens[r], unlesses[r]);
        }

        boolean goesOfBase(int r) {
            return goes(r, base);
        }

        Bits found() {
            if (foundCount == count) return extended;
            foundCount = count;
            extended.clear();
            int able = able(), set = 0;
            for (int left = 1 << Integer.bitCount(able); left > 0; left--) {
                if (isExtension(set)) extended.add(set);
                // the next part of those that are able
                set = set - able & able;
            }
            return extended;
        }

        // The rules that can come to go in some row: no other one is in an extension.
        private int able() {
            int set = 0;
            for (int r = 0; r < count && r < thens.length; r++)
                if (base.meetsBut(thens[r], unlesses[r])) set |= 1 << r;
            return inRow(set);
        }

        private boolean isExtension(int set) {
            Bits of = worldsOf(set);
            for (int r = 0; r < count; r++) if (goes(r, of) != ((set >> r & 1) == 1)) return false;
            return inRow(set) == set;
        }

        // Those of a set that can be put in a row. Worlds only go, so a rule whose turn has come
        // once may be put next at once.
        private int inRow(int set) {
            int left = set;
            ahead.become(base);
            for (int round = 0; round < count && left != 0; round++) {
                for (int r = 0; r < count && r < whens.length; r++) {
                    if ((left >> r & 1) == 0 || !ahead.within(whens[r])) continue;
                    ahead.meet(thens[r]);
                    left &= ~(1 << r);
                }
            }
            return set & ~left;
        }

        // How many rules of each rank, those of rank 0 in the highest four bits.
        private long worth(int set) {
            long sum = 0L;
            for (int r = 0; r < count; r++) {
                Rule rule = ruleAt(r);
                if ((set >> r & 1) == 1 && rule != null) sum += 1L << 4 * (9 - rule.rank);
            }
            return sum;
        }

        Bits bestFound() {
            Bits of = found();
            int set = -1;
            long most = 0L;
            best.clear();
            for (int left = of.size(); left > 0; left--) {
                set = of.after(set);
                long worth = worth(set);
                if (worth > most) best.clear();
                most = Math.max(most, worth);
                if (worth == most) best.add(set);
            }
            return best;
        }

        // Of how many of these extensions a sentence follows.
        int following(Bits s, Bits of) {
            int set = -1, sum = 0;
            for (int left = of.size(); left > 0; left--) {
                set = of.after(set);
                if (worldsOf(set).within(s)) sum++;
            }
            return sum;
        }

        int barredBy(int r) {
            if (r < 0 || r >= count) return 0;
            Bits of = worldsOf(1 << r);
            int set = 0;
            if (of.isEmpty()) return 0;
            for (int b = 0; b < count && b < unlesses.length; b++) if (of.within(unlesses[b])) set |= 1 << b;
            return set;
        }

        int circle(int r) {
            int reached = 1 << r;
            for (int steps = 1; steps <= count; steps++) {
                int next = 0;
                for (int a = 0; a < count; a++) if ((reached >> a & 1) == 1) next |= barredBy(a);
                if ((next >> r & 1) == 1) return steps;
                reached = next;
            }
            return NONE;
        }
    }

    // Claims that strike one another.
    private static final class Claims {
        private static final int LOW = 1 << 6;

        int count;
        int standing;
        final int[] said = new int[CLAIMS];
        final int[] sources = new int[CLAIMS];
        final int[] strikers = new int[CLAIMS];
        final int[] rounds = new int[CLAIMS];
        final Bits sound = new Bits(1 << CLAIMS);
        final Bits preferred = new Bits(1 << CLAIMS);
        final Bits stable = new Bits(1 << CLAIMS);
        private final int[] struck = new int[CLAIMS];
        private final Bits[] places = rowOfBits(CLAIMS);
        private final int[] trusted = new int[SOURCES];
        private final Bits closed = new Bits(1 << CLAIMS);
        private final int[] struckByLow = new int[LOW];
        private final int[] strikersOfLow = new int[LOW];
        private int settledCount = NOTHING;
        private int soughtCount = NOTHING;

        boolean isFull() {
            return count >= said.length;
        }

        boolean isClaim(int c) {
            return c >= 0 && c < count && c < CLAIMS;
        }

        int keep(int s, int source, Bits where) {
            if (count >= said.length) return FULL;
            said[count] = s;
            sources[count] = source;
            places[count].become(where);
            count++;
            return count - 1;
        }

        void settle(int[] trust) {
            boolean same = settledCount == count;
            for (int i = 0; i < trusted.length && i < trust.length; i++) {
                if (trusted[i] != trust[i]) same = false;
                trusted[i] = trust[i];
            }
            if (same) return;
            settledCount = count;
            soughtCount = NOTHING;
            findStrikes();
            findRounds();
        }

        private void findStrikes() {
            Arrays.fill(strikers, 0);
            Arrays.fill(struck, 0);
            for (int a = 0; a < count && a < CLAIMS; a++) {
                for (int b = 0; b < count && b < CLAIMS; b++) {
                    if (trustOf(a) < trustOf(b) || !places[a].apart(places[b])) continue;
                    strikers[b] |= 1 << a;
                    struck[a] |= 1 << b;
                }
            }
        }

        private int trustOf(int c) {
            if (!isClaim(c) || !isSource(sources[c])) return 0;
            return trusted[sources[c]];
        }

        private void findRounds() {
            standing = 0;
            for (int round = 1; round <= count; round++) {
                int hit = allOf(struck, standing), come = 0;
                for (int c = 0; c < count && c < CLAIMS; c++) {
                    if ((standing >> c & 1) == 1 || (strikers[c] & ~hit) != 0) continue;
                    rounds[c] = round;
                    come |= 1 << c;
                }
                standing |= come;
            }
        }

        private int allOf(int[] masks, int set) {
            int sum = 0;
            for (int c = 0; c < count && c < masks.length; c++) if ((set >> c & 1) == 1) sum |= masks[c];
            return sum;
        }

        // The sound, preferred and stable sets.
        void seek() {
            if (soughtCount == count) return;
            soughtCount = count;
            sound.clear();
            stable.clear();
            fillLow();
            for (int high = 0; high < 1 << count; high += LOW) seekFrom(high);
            closed.become(sound);
            closed.closeDown(CLAIMS);
            preferred.becomeTops(closed, CLAIMS);
        }

        // What each set of the first six claims strikes, and is struck by.
        private void fillLow() {
            for (int set = 0; set < LOW; set++) {
                struckByLow[set] = allOf(struck, set);
                strikersOfLow[set] = allOf(strikers, set);
            }
        }

        // The sets that are one of others than the first six claims, and some of these.
        private void seekFrom(int high) {
            int all = (1 << count) - 1;
            int struckByHigh = allOf(struck, high), strikersOfHigh = allOf(strikers, high);
            for (int low = 0; low < LOW && (high | low) <= all; low++) {
                int set = high | low, hit = struckByHigh | struckByLow[low];
                if ((hit & set) != 0) continue;
                if ((hit | set) == all) stable.add(set);
                if (((strikersOfHigh | strikersOfLow[low]) & ~hit) == 0) sound.add(set);
            }
        }

        int answerTo(int c) {
            if (!isClaim(c)) return NONE;
            int found = NONE, least = Integer.MAX_VALUE;
            int able = strikers[c] & standing;
            for (int a = 0; a < count && a < CLAIMS; a++) {
                if ((able >> a & 1) == 0 || rounds[a] >= least) continue;
                least = rounds[a];
                found = a;
            }
            return found;
        }
    }

    // Books of several sources merged.
    private static final class Merging {
        final int[][] fars = new int[SOURCES][WORLDS];
        int taking;
        private final Bits nearest = new Bits(WORLDS);
        private int settledView = NOTHING;

        void settle(Book book) {
            int view = book.inView();
            if (view == settledView) return;
            settledView = view;
            taking = 0;
            for (int source = 0; source < SOURCES; source++) {
                int set = book.bySource(view, source);
                if (set != 0 && begin(fars[source], set, book)) {
                    taking |= 1 << source;
                    spread(fars[source]);
                }
            }
        }

        // 0 in the worlds of a set, else farther than any; whether it has one.
        private static boolean begin(int[] row, int set, Book book) {
            boolean some = false;
            for (int w = 0; w < row.length; w++) {
                boolean there = (set & ~book.trueAt(w)) == 0;
                row[w] = there ? 0 : 9;
                some |= there;
            }
            return some;
        }

        // Letter by letter: a world is at most one farther than the one that is other in it.
        private static void spread(int[] row) {
            for (int k = 1; k < row.length; k <<= 1) {
                for (int w = 0; w < row.length; w++) {
                    int other = w | k;
                    if (other == w || other >= row.length) continue;
                    int low = row[w], high = row[other];
                    row[w] = Math.min(low, high + 1);
                    row[other] = Math.min(high, low + 1);
                }
            }
        }

        Bits chosen(int law, Book book) {
            settle(book);
            int least = Integer.MAX_VALUE;
            nearest.clear();
            for (int w = 0; w < WORLDS; w++) {
                int cost = costOf(w, law, book.trusted);
                if (cost < least) nearest.clear();
                least = Math.min(least, cost);
                if (cost == least) nearest.add(w);
            }
            return nearest;
        }

        private int costOf(int w, int law, int[] trust) {
            int sum = 0;
            for (int source = 0; source < SOURCES && source < trust.length; source++) {
                if ((taking >> source & 1) == 0) continue;
                int far = fars[source][w];
                if (law == 0) sum += trust[source] * far;
                else if (law == 1) sum = Math.max(sum, far);
                // how many are this far, in three bits: six sources at most
                else sum += 1 << 3 * far;
            }
            return sum;
        }
    }
}
