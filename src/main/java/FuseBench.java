import java.util.Arrays;

/** Kinds that fuse: six tables and one word, with the answers that the document promises. */
public final class FuseBench {
    public static final int NONE = -1, BAD = -2, NO = -3;

    private static final int TABLES = 6;
    private static final int MOST_KINDS = 5;
    private static final int MOST_TIMES = 9;
    private static final int LONGEST_WORD = 14;
    private static final int MOST_FUSINGS = 12;
    private static final int FAULT_PARTS = 4;
    private static final long DIGEST_START = 223;
    private static final int[] PRIMES = {2, 3, 5, 7, 11, 13};

    private final Table[] tables = new Table[TABLES];
    private final Table spare = new Table();
    private final Laws laws = new Laws();
    private final Sum sum = new Sum();
    private final Listing listing = new Listing();
    private final Namings namings = new Namings();
    private final Remainders remainders = new Remainders();
    private final Extent extent = new Extent();
    private final int[] word = new int[LONGEST_WORD];
    private int wordLength;

    public FuseBench() {
        for (int t = 0; t < TABLES; t++) {
            tables[t] = new Table();
        }
    }

    public int rank(int t, int r) {
        if (!isTable(t) || r < 1 || r > MOST_KINDS) {
            return BAD;
        }
        tables[t].reset(r);
        return 1;
    }

    public int put(int t, int i, int j, int k, int v) {
        if (!isPlace(t, i, j, k) || v < 0 || v > MOST_TIMES) {
            return BAD;
        }
        int before = tables[t].number(i, j, k);
        tables[t].setNumber(i, j, k, v);
        return before;
    }

    public int at(int t, int i, int j, int k) {
        return isPlace(t, i, j, k) ? tables[t].number(i, j, k) : BAD;
    }

    public int fault(int t, int what) {
        if (!isTable(t) || what < 0 || what > FAULT_PARTS) {
            return BAD;
        }
        laws.allHold(tables[t]);
        return what == 0 ? laws.broken : laws.place[what - 1];
    }

    public int partner(int t, int i) {
        if (!isKind(t, i)) {
            return BAD;
        }
        return isRight(t) ? laws.partners[i] : NO;
    }

    public int copy(int from, int to) {
        if (!isTable(from) || !isTable(to)) {
            return BAD;
        }
        tables[to].become(tables[from]);
        return tables[to].kinds;
    }

    // ---- tables made

    public int group(int t, int n) {
        if (!isTable(t) || n < 1 || n > MOST_KINDS) {
            return BAD;
        }
        tables[t].reset(n);
        tables[t].fuseAsGroup(n);
        return 1;
    }

    public int near(int t, int n, int a) {
        if (!isTable(t) || n < 1 || n >= MOST_KINDS || a < 0 || a > MOST_TIMES) {
            return BAD;
        }
        tables[t].reset(n + 1);
        tables[t].fuseAsGroup(n);
        for (int i = 0; i < n; i++) {
            tables[t].setNumber(n, i, n, 1);
            tables[t].setNumber(i, n, n, 1);
            tables[t].setNumber(n, n, i, 1);
        }
        tables[t].setNumber(n, n, n, a);
        return 1;
    }

    public int together(int a, int b, int to) {
        if (!isTable(a) || !isTable(b) || !isTable(to)) {
            return BAD;
        }
        if (tables[a].kinds * tables[b].kinds > MOST_KINDS) {
            return NO;
        }
        // The product is made apart: it may be refused late, and TABLE to may be a or b.
        if (!spare.becomeProduct(tables[a], tables[b])) {
            return NO;
        }
        tables[to].become(spare);
        return spare.kinds;
    }

    public int list(int r, int m, int p) {
        return isListed(r, m, p) ? listing.howMany(r, m, p) : BAD;
    }

    public int take(int t, int r, int m, int p, int i) {
        if (!isTable(t) || !isListed(r, m, p) || i < 0) {
            return BAD;
        }
        if (i >= listing.howMany(r, m, p)) {
            return NO;
        }
        listing.write(tables[t], i);
        return 1;
    }

    // ---- words, ways

    public int letter(int k) {
        if (k < 0 || k >= MOST_KINDS) {
            return BAD;
        }
        if (wordLength >= LONGEST_WORD) {
            return NO;
        }
        word[wordLength] = k;
        wordLength++;
        return wordLength;
    }

    public int empty() {
        int before = wordLength;
        wordLength = 0;
        return before;
    }

    public long fused(int t, int k) {
        if (!isKind(t, k) || !hasWord(tables[t])) {
            return BAD;
        }
        sum.begin(0);
        for (int n = 0; n < wordLength; n++) {
            sum.fuseWith(tables[t], word[n]);
        }
        return sum.times[k];
    }

    public long ways(int t, int i, int x, int n, int j) {
        if (!isPlace(t, i, x, j) || n < 0 || n > MOST_FUSINGS) {
            return BAD;
        }
        sum.begin(i);
        for (int step = 0; step < n; step++) {
            sum.fuseWith(tables[t], x);
        }
        return sum.times[j];
    }

    // ---- within tables

    public int closed(int t, int set) {
        if (!isSet(t, set) || set == 0) {
            return BAD;
        }
        if (!isRight(t)) {
            return NO;
        }
        return Sets.closure(tables[t], laws.partners, set) == set ? 1 : 0;
    }

    public int least(int t, int set) {
        if (!isSet(t, set)) {
            return BAD;
        }
        return isRight(t) ? Sets.closure(tables[t], laws.partners, set) : NO;
    }

    public int core(int t) {
        if (!isTable(t)) {
            return BAD;
        }
        return isRight(t) ? Sets.innermost(tables[t], laws.partners) : NO;
    }

    public int grade(int t, int i) {
        if (!isKind(t, i)) {
            return BAD;
        }
        if (!isRight(t)) {
            return NO;
        }
        int inner = Sets.innermost(tables[t], laws.partners);
        return Sets.firstOf(Sets.fusedWithAny(tables[t], i, inner));
    }

    public int within(int t) {
        if (!isTable(t)) {
            return BAD;
        }
        return isRight(t) ? Sets.countClosed(tables[t], laws.partners) : NO;
    }

    public int like(int a, int b) {
        if (!isTable(a) || !isTable(b)) {
            return BAD;
        }
        return namings.count(tables[a], tables[b]);
    }

    public int maps(int t, int q) {
        if (!isTable(t) || !isPrime(q)) {
            return BAD;
        }
        return isRight(t) ? remainders.count(tables[t], q) : NO;
    }

    public int map(int t, int q, int k, int i) {
        if (!isKind(t, i) || !isPrime(q) || k < 0) {
            return BAD;
        }
        if (!isRight(t)) {
            return NO;
        }
        return remainders.find(tables[t], q, k) ? remainders.row[i] : NONE;
    }

    public int size(int t) {
        if (!isTable(t)) {
            return BAD;
        }
        return isRight(t) ? extent.tenths(tables[t]) : NO;
    }

    public long digest() {
        long h = DIGEST_START;
        for (int t = 0; t < TABLES; t++) {
            h = tables[t].mixInto(h);
        }
        h = 31 * h + wordLength;
        for (int n = 0; n < wordLength; n++) {
            h = 31 * h + word[n];
        }
        return h;
    }

    private static boolean isTable(int t) {
        return t >= 0 && t < TABLES;
    }

    private boolean isKind(int t, int i) {
        return isTable(t) && tables[t].has(i);
    }

    private boolean isPlace(int t, int i, int j, int k) {
        return isKind(t, i) && tables[t].has(j) && tables[t].has(k);
    }

    private boolean isSet(int t, int set) {
        return isTable(t) && set >= 0 && set < 1 << tables[t].kinds;
    }

    private static boolean isListed(int r, int m, int p) {
        int mostTimes = r == Listing.MOST_KINDS_LISTED ? 1 : Listing.MOST_BOUND;
        int mostPairs = r == 2 ? 0 : 1;
        return r >= 2 && r <= Listing.MOST_KINDS_LISTED
            && m >= 1 && m <= mostTimes && p >= 0 && p <= mostPairs;
    }

    private static boolean isPrime(int q) {
        for (int prime : PRIMES) {
            if (prime == q) {
                return true;
            }
        }
        return false;
    }

    private boolean isRight(int t) {
        return laws.allHold(tables[t]);
    }

    private boolean hasWord(Table table) {
        for (int n = 0; n < wordLength; n++) {
            if (!table.has(word[n])) {
                return false;
            }
        }
        return true;
    }

    /** A RANK and the numbers N(i, j, k); places beyond the RANK are kept at 0. */
    private static final class Table {
        static final int PLACES = MOST_KINDS * MOST_KINDS * MOST_KINDS;

        final int[] numbers = new int[PLACES];
        int kinds;

        Table() {
            reset(1);
        }

        static int placeOf(int i, int j, int k) {
            return (i * MOST_KINDS + j) * MOST_KINDS + k;
        }

        boolean has(int kind) {
            return kind >= 0 && kind < kinds;
        }

        int number(int i, int j, int k) {
            return numbers[placeOf(i, j, k)];
        }

        void setNumber(int i, int j, int k, int v) {
            numbers[placeOf(i, j, k)] = v;
        }

        void reset(int r) {
            Arrays.fill(numbers, 0);
            kinds = r;
            for (int i = 0; i < r; i++) {
                setNumber(0, i, i, 1);
                setNumber(i, 0, i, 1);
            }
        }

        void become(Table other) {
            kinds = other.kinds;
            System.arraycopy(other.numbers, 0, numbers, 0, PLACES);
        }

        void fuseAsGroup(int n) {
            for (int i = 0; i < n; i++) {
                for (int j = 0; j < n; j++) {
                    int k = i + j >= n ? i + j - n : i + j;
                    setNumber(i, j, k, 1);
                }
            }
        }

        /** Answers false, with this table in no state to be used, if a product is above 9. */
        boolean becomeProduct(Table first, Table second) {
            int s = second.kinds;
            reset(first.kinds * s);
            for (int i = 0; i < first.kinds; i++) {
                for (int j = 0; j < first.kinds; j++) {
                    for (int k = 0; k < first.kinds; k++) {
                        if (!placeBlock(second, first.number(i, j, k), i * s, j * s, k * s)) {
                            return false;
                        }
                    }
                }
            }
            return true;
        }

        private boolean placeBlock(Table block, int factor, int iFrom, int jFrom, int kFrom) {
            for (int i = 0; i < block.kinds; i++) {
                for (int j = 0; j < block.kinds; j++) {
                    for (int k = 0; k < block.kinds; k++) {
                        int product = factor * block.number(i, j, k);
                        if (product > MOST_TIMES) {
                            return false;
                        }
                        setNumber(iFrom + i, jFrom + j, kFrom + k, product);
                    }
                }
            }
            return true;
        }

        long mixInto(long start) {
            long h = 31 * start + kinds;
            for (int i = 0; i < kinds; i++) {
                for (int j = 0; j < kinds; j++) {
                    for (int k = 0; k < kinds; k++) {
                        h = 31 * h + number(i, j, k);
                    }
                }
            }
            return h;
        }
    }

    /** Holds a table to the LAWS, and keeps the first FAULT and the PARTNERS of the last one held. */
    private static final class Laws {
        final int[] place = new int[FAULT_PARTS];
        final int[] partners = new int[MOST_KINDS];
        int broken;

        boolean allHold(Table t) {
            broken = 0;
            Arrays.fill(place, NONE);
            return unitHolds(t) && eitherWayHolds(t) && partnersHold(t)
                && turnedHolds(t) && threeHolds(t);
        }

        /** Places that the law has not are given as NONE; answers false, as the law does not hold. */
        private boolean breaks(int law, int i, int j, int k, int l) {
            broken = law;
            place[0] = i;
            place[1] = j;
            place[2] = k;
            place[3] = l;
            return false;
        }

        private boolean unitHolds(Table t) {
            for (int i = 0; i < t.kinds; i++) {
                for (int j = 0; j < t.kinds; j++) {
                    int due = i == j ? 1 : 0;
                    if (t.number(0, i, j) != due || t.number(i, 0, j) != due) {
                        return breaks(1, i, j, NONE, NONE);
                    }
                }
            }
            return true;
        }

        private boolean eitherWayHolds(Table t) {
            for (int i = 0; i < t.kinds; i++) {
                for (int j = 0; j < t.kinds; j++) {
                    for (int k = 0; k < t.kinds; k++) {
                        if (t.number(i, j, k) != t.number(j, i, k)) {
                            return breaks(2, i, j, k, NONE);
                        }
                    }
                }
            }
            return true;
        }

        private boolean partnersHold(Table t) {
            for (int i = 0; i < t.kinds; i++) {
                int total = 0;
                for (int j = 0; j < t.kinds; j++) {
                    total += t.number(i, j, 0);
                    if (t.number(i, j, 0) > 0) {
                        partners[i] = j;
                    }
                }
                // No number is below 0, so a total of 1 is a single 1.
                if (total != 1) {
                    return breaks(3, i, NONE, NONE, NONE);
                }
            }
            return true;
        }

        private boolean turnedHolds(Table t) {
            for (int i = 0; i < t.kinds; i++) {
                for (int j = 0; j < t.kinds; j++) {
                    for (int k = 0; k < t.kinds; k++) {
                        if (t.number(i, j, k) != t.number(partners[i], k, j)) {
                            return breaks(4, i, j, k, NONE);
                        }
                    }
                }
            }
            return true;
        }

        /** Needs the unit to hold: then this law can't break with KIND 0 as i, j or k. */
        boolean threeHolds(Table t) {
            for (int i = 1; i < t.kinds; i++) {
                for (int j = 1; j < t.kinds; j++) {
                    for (int k = 1; k < t.kinds; k++) {
                        int l = firstUnlike(t, i, j, k);
                        if (l != NONE) {
                            return breaks(5, i, j, k, l);
                        }
                    }
                }
            }
            return true;
        }

        private static int firstUnlike(Table t, int i, int j, int k) {
            for (int l = 0; l < t.kinds; l++) {
                int difference = 0;
                for (int x = 0; x < t.kinds; x++) {
                    difference += t.number(i, j, x) * t.number(x, k, l)
                        - t.number(j, k, x) * t.number(i, x, l);
                }
                if (difference != 0) {
                    return l;
                }
            }
            return NONE;
        }
    }

    /** A sum of KINDS that is fused on from the left. */
    private static final class Sum {
        final long[] times = new long[MOST_KINDS];
        private final long[] next = new long[MOST_KINDS];

        void begin(int kind) {
            Arrays.fill(times, 0);
            times[kind] = 1;
        }

        void fuseWith(Table t, int kind) {
            for (int k = 0; k < t.kinds; k++) {
                next[k] = 0;
                for (int x = 0; x < t.kinds; x++) {
                    next[k] += times[x] * t.number(x, kind, k);
                }
            }
            System.arraycopy(next, 0, times, 0, t.kinds);
        }
    }

    /** Sets of KINDS as bits, in a RIGHT table with its PARTNERS. */
    private static final class Sets {
        static boolean holds(int set, int kind) {
            return (set >> kind & 1) != 0;
        }

        static int firstOf(int set) {
            for (int kind = 0; kind < MOST_KINDS; kind++) {
                if (holds(set, kind)) {
                    return kind;
                }
            }
            return NONE;
        }

        /** All KINDS that are in KIND i fused with some KIND of the set. */
        static int fusedWithAny(Table t, int i, int set) {
            int reached = 0;
            for (int j = 0; j < t.kinds; j++) {
                for (int k = 0; k < t.kinds; k++) {
                    if (holds(set, j) && t.number(i, j, k) > 0) {
                        reached |= 1 << k;
                    }
                }
            }
            return reached;
        }

        static int closure(Table t, int[] partners, int set) {
            int grown = set | 1;
            // Each round that changes the set adds a KIND, so as many rounds as KINDS are enough.
            for (int round = 0; round < t.kinds; round++) {
                grown = grow(t, partners, grown);
            }
            return grown;
        }

        private static int grow(Table t, int[] partners, int set) {
            int grown = set;
            for (int i = 0; i < t.kinds; i++) {
                if (holds(set, i)) {
                    grown |= 1 << partners[i] | fusedWithAny(t, i, set);
                }
            }
            return grown;
        }

        static int innermost(Table t, int[] partners) {
            int set = 0;
            for (int i = 0; i < t.kinds; i++) {
                set |= fusedWithAny(t, i, 1 << partners[i]);
            }
            return closure(t, partners, set);
        }

        static int countClosed(Table t, int[] partners) {
            int count = 0;
            for (int set = 1; set < 1 << t.kinds; set++) {
                if ((set & 1) != 0 && grow(t, partners, set) == set) {
                    count++;
                }
            }
            return count;
        }
    }

    /** The RIGHT tables of one RANK, bound and number of unlike pairs; the last list made is kept. */
    private static final class Listing {
        static final int MOST_KINDS_LISTED = 4, MOST_BOUND = 3;
        // RANK 4 has most: ten numbers, each 0 or 1, are free; a row of them is kept as two bits each.
        private static final int MOST_FREE = 10, MOST_ROWS = 1 << MOST_FREE;
        // Swapping and turning in alternation come back to the first place after twelve steps.
        private static final int TURNS = 12;

        private final int[] freeAt = new int[Table.PLACES];
        private final int[] row = new int[MOST_FREE];
        private final int[] found = new int[MOST_ROWS];
        private final Table candidate = new Table();
        private final Laws laws = new Laws();
        private int kinds;
        private int bound;
        private int pairs;
        private int free;
        private int count;

        int howMany(int r, int m, int p) {
            if (r != kinds || m != bound || p != pairs) {
                kinds = r;
                bound = m;
                pairs = p;
                findFree();
                findRight();
            }
            return count;
        }

        /** Needs the list that howMany made last to have so many. */
        void write(Table to, int index) {
            if (index < 0 || index >= count) {
                return;
            }
            int packed = found[index];
            for (int n = free - 1; n >= 0; n--) {
                row[n] = packed & 3;
                packed >>= 2;
            }
            buildCandidate();
            to.become(candidate);
        }

        private int partnerOf(int kind) {
            return pairs == 1 && (kind == 1 || kind == 2) ? 3 - kind : kind;
        }

        /**
         * LAWS 2 and 4 make many places alike. Each free number is counted at the first of its
         * places, so that rows of free numbers in order give tables in order.
         */
        private void findFree() {
            Arrays.fill(freeAt, NONE);
            free = 0;
            for (int i = 1; i < kinds; i++) {
                for (int j = 1; j < kinds; j++) {
                    for (int k = 1; k < kinds; k++) {
                        if (freeAt[Table.placeOf(i, j, k)] == NONE && free < MOST_FREE) {
                            markAlike(i, j, k);
                            free++;
                        }
                    }
                }
            }
        }

        private void markAlike(int i, int j, int k) {
            int a = i;
            int b = j;
            int c = k;
            for (int turn = 0; turn < TURNS; turn++) {
                freeAt[Table.placeOf(a, b, c)] = free;
                int second = b;
                if ((turn & 1) == 0) {
                    b = a;
                    a = second;
                } else {
                    a = partnerOf(a);
                    b = c;
                    c = second;
                }
            }
        }

        private void findRight() {
            count = 0;
            Arrays.fill(row, 0);
            boolean more = true;
            for (int n = 0; n < MOST_ROWS && more; n++) {
                buildCandidate();
                // The other LAWS hold by the way the candidate is built.
                if (laws.threeHolds(candidate)) {
                    found[count] = packedRow();
                    count++;
                }
                more = nextRow();
            }
        }

        private void buildCandidate() {
            candidate.reset(kinds);
            for (int i = 1; i < kinds; i++) {
                candidate.setNumber(i, partnerOf(i), 0, 1);
                for (int j = 1; j < kinds; j++) {
                    for (int k = 1; k < kinds; k++) {
                        int n = freeAt[Table.placeOf(i, j, k)];
                        candidate.setNumber(i, j, k, n == NONE ? 0 : row[n]);
                    }
                }
            }
        }

        private int packedRow() {
            int packed = 0;
            for (int n = 0; n < free; n++) {
                packed = packed << 2 | row[n];
            }
            return packed;
        }

        private boolean nextRow() {
            for (int n = free - 1; n >= 0; n--) {
                if (row[n] < bound) {
                    row[n]++;
                    return true;
                }
                row[n] = 0;
            }
            return false;
        }
    }

    /** NAMINGS, tried one after the other. */
    private static final class Namings {
        private final int[] names = new int[MOST_KINDS];

        int count(Table a, Table b) {
            return a.kinds == b.kinds ? countFrom(a, b, names, 1, 1) : 0;
        }

        /** Names KINDS from a given one on, which is the depth too; KIND 0 keeps its name. */
        private static int countFrom(Table a, Table b, int[] names, int kind, int used) {
            if (kind >= a.kinds) {
                return alike(a, b, names) ? 1 : 0;
            }
            int count = 0;
            for (int name = 1; name < a.kinds; name++) {
                if ((used >> name & 1) == 0) {
                    names[kind] = name;
                    count += countFrom(a, b, names, kind + 1, used | 1 << name);
                }
            }
            return count;
        }

        private static boolean alike(Table a, Table b, int[] names) {
            for (int i = 0; i < a.kinds; i++) {
                for (int j = 0; j < a.kinds; j++) {
                    for (int k = 0; k < a.kinds; k++) {
                        if (a.number(i, j, k) != b.number(names[i], names[j], names[k])) {
                            return false;
                        }
                    }
                }
            }
            return true;
        }
    }

    /** MAPS of a RIGHT table to remainders, walked in order. */
    private static final class Remainders {
        private static final int MOST_ROWS = 13 * 13 * 13 * 13;

        final int[] row = new int[MOST_KINDS];
        private int passed;

        int count(Table t, int q) {
            walk(t, q, NONE);
            return passed;
        }

        /** Answers whether there is a MAP with this number, and leaves it in the row. */
        boolean find(Table t, int q, int index) {
            return walk(t, q, index);
        }

        private boolean walk(Table t, int q, int index) {
            passed = 0;
            Arrays.fill(row, 0);
            row[0] = 1;
            boolean more = q > 0;
            for (int n = 0; n < MOST_ROWS && more; n++) {
                int last = lastOfBroken(t, q);
                if (last == NONE) {
                    if (passed == index) {
                        return true;
                    }
                    passed++;
                    last = t.kinds - 1;
                }
                // What breaks among the KINDS up to the last breaks whatever the later ones are.
                more = nextRow(t.kinds, q, last);
            }
            return false;
        }

        /** The last KIND that has a part in the first product that breaks; NONE if none does. */
        private int lastOfBroken(Table t, int q) {
            for (int i = 1; i < t.kinds; i++) {
                for (int j = 1; j <= i; j++) {
                    int difference = row[i] * row[j];
                    int last = i;
                    for (int k = 0; k < t.kinds; k++) {
                        int times = t.number(i, j, k);
                        difference -= times * row[k];
                        last = times > 0 ? Math.max(last, k) : last;
                    }
                    if (q > 0 && difference % q != 0) {
                        return last;
                    }
                }
            }
            return NONE;
        }

        private boolean nextRow(int kinds, int q, int last) {
            for (int i = kinds - 1; i >= 1; i--) {
                if (i <= last && row[i] < q - 1) {
                    row[i]++;
                    return true;
                }
                row[i] = 0;
            }
            return false;
        }
    }

    /** THE SIZE of a RIGHT table, told exactly by whole numbers. */
    private static final class Extent {
        // No row of sums adds up to more than 5 * 5 * 9, and THE SIZE is no more than that.
        private static final int ABOVE_ALL = 10 * MOST_KINDS * MOST_KINDS * MOST_TIMES + 1;
        // Twelve halvings bring 4096 down to 1, and what is above all is less than that.
        private static final int HALVINGS = 12;

        private final int[] sums = new int[MOST_KINDS * MOST_KINDS];
        private final long[] minors = new long[1 << MOST_KINDS];

        int tenths(Table t) {
            addUp(t);
            int low = 0;
            int high = ABOVE_ALL;
            for (int n = 0; n < HALVINGS && high - low > 1; n++) {
                int middle = low + high >> 1;
                if (isAbove(middle, t.kinds)) {
                    high = middle;
                } else {
                    low = middle;
                }
            }
            return low;
        }

        private void addUp(Table t) {
            for (int i = 0; i < t.kinds; i++) {
                for (int k = 0; k < t.kinds; k++) {
                    int sum = 0;
                    for (int j = 0; j < t.kinds; j++) {
                        sum += t.number(j, i, k);
                    }
                    sums[i * MOST_KINDS + k] = sum;
                }
            }
        }

        /**
         * No sum is below 0, so a number m is above THE SIZE just if all leading minors of
         * m times the unit less the sums are above 0; here both are taken tenfold.
         */
        private boolean isAbove(int tenths, int kinds) {
            minors[0] = 1;
            for (int columns = 1; columns < 1 << kinds; columns++) {
                minors[columns] = expandedMinor(tenths, columns);
                boolean leading = (columns & columns + 1) == 0;
                if (leading && minors[columns] <= 0) {
                    return false;
                }
            }
            return true;
        }

        /** The minor of these columns and as many first rows, expanded by the last of the rows. */
        private long expandedMinor(int tenths, int columns) {
            int lastRow = Integer.bitCount(columns) - 1;
            long total = 0;
            long sign = 1;
            for (int c = MOST_KINDS - 1; c >= 0; c--) {
                if (Sets.holds(columns, c)) {
                    long entry = (c == lastRow ? tenths : 0) - 10L * sums[lastRow * MOST_KINDS + c];
                    total += sign * entry * minors[columns & ~(1 << c)];
                    sign = -sign;
                }
            }
            return total;
        }
    }
}
