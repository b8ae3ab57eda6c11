import java.util.Arrays;

/** Rows of small magnets, solved: a chain, ice, sums of words, undone and done again. */
public final class MagnetRows {
    public static final int UNKNOWN = -1, OUTSIDE = -2, STATE = -3, FULL = -4, SPENT = -6, NONE = -9;
    public static final long LOST = Long.MIN_VALUE;

    private static final int NO_FAULT = 0, NULL_FAULT = 1, CAST_FAULT = 2, INDEX_FAULT = 3, SIZE_FAULT = 4;
    private static final int MOST_WEIGHTS = 6, SUMS = 4, SHEETS = 4, LANES = 3, KINDS = 3;
    private static final int MOST_WORDS = 60, MOST_CELLS = 60, MOST_ACTS = 20, LIMIT = 1000000;
    private static final int MOST_ORBITS = 10, FURTHEST = 50;
    private static final long PRIME = 1000000007L;

    private final Ledger ledger = new Ledger(new Chain(6, true, 2, 1));
    private final Plain[] weightRows = new Plain[MOST_WEIGHTS];
    private final Sheet[] sheets = new Sheet[SHEETS];
    private final Trail trail = new Trail();
    private int weightCount = 0;
    private int latestFault = NO_FAULT;
    // The three below keep rows for reckoning: they are made when first needed, so that a new object is small.
    private Sector sector = null;
    private Ice iceWorks = null;
    private Mixer mixer = null;

    public MagnetRows() {
    }

    // ---- 1 the chain

    public int chain(int n, boolean ring, int e, int d) {
        if (n < 2 || n > 8 || e < 1 || e > 4 || d < -2 || d > 2) {
            return OUTSIDE;
        }
        Chain next = new Chain(n, ring, e, d);
        ledger.recordChain(next);
        return next.states;
    }

    public long act(int from, int to) {
        Chain now = ledger.chainNow();
        if (noState(from, now.places) || noState(to, now.places)) {
            return LOST;
        }
        return now.hop(from, to);
    }

    public int turned(int state) {
        Chain now = ledger.chainNow();
        return noState(state, now.places) ? OUTSIDE : now.turn(state);
    }

    public int size(int m, int sign) {
        return noSector(m, sign) ? OUTSIDE : sectorOf(m, sign).orbits;
    }

    public int head(int m, int sign, int i) {
        if (noSector(m, sign)) {
            return OUTSIDE;
        }
        Sector found = sectorOf(m, sign);
        return found.hasOrbit(i) ? found.heads[i] : UNKNOWN;
    }

    public long entry(int m, int sign, int i, int j) {
        if (noSector(m, sign)) {
            return LOST;
        }
        Sector found = sectorOf(m, sign);
        if (!found.hasOrbit(i) || !found.hasOrbit(j) || !found.solve()) {
            return LOST;
        }
        return found.table[i * MOST_ORBITS + j];
    }

    public long poly(int m, int sign, int k) {
        if (noSector(m, sign)) {
            return LOST;
        }
        Sector found = sectorOf(m, sign);
        if (k < 0 || k > found.orbits || !found.solve()) {
            return LOST;
        }
        return found.coefficients[k];
    }

    public int above(int m, int sign, int c) {
        if (noSector(m, sign) || tooFar(c)) {
            return OUTSIDE;
        }
        Sector found = sectorOf(m, sign);
        return found.solve() ? found.rootsAbove(c) : SPENT;
    }

    public int often(int m, int sign, int c) {
        if (noSector(m, sign) || tooFar(c)) {
            return OUTSIDE;
        }
        Sector found = sectorOf(m, sign);
        return found.solve() ? found.rootsAt(c) : SPENT;
    }

    public int whole(int m, int sign) {
        if (noSector(m, sign)) {
            return OUTSIDE;
        }
        Sector found = sectorOf(m, sign);
        return found.solve() ? found.wholeRoots() : SPENT;
    }

    public long power(int m, int sign, int n) {
        if (noSector(m, sign) || n < 1 || n > 4) {
            return LOST;
        }
        Sector found = sectorOf(m, sign);
        return found.solve() ? found.powerSum(n) : LOST;
    }

    public long powerOf(int m, int n) {
        if (noSector(m, 1) || n < 1 || n > 4) {
            return LOST;
        }
        return sectorOf(m, 1).powerSumOfAll(n);
    }

    public long rest(int m, int sign, int c, int i) {
        if (noSector(m, sign) || tooFar(c)) {
            return LOST;
        }
        Sector found = sectorOf(m, sign);
        if (!found.restsAt(c) || !found.hasOrbit(i)) {
            return LOST;
        }
        return found.shares[i];
    }

    public long seen(int m, int sign, int c, int i, int j, int which) {
        if (noSector(m, sign) || tooFar(c)) {
            return LOST;
        }
        int places = ledger.chainNow().places;
        if (i < 0 || i >= places || j < 0 || j >= places || which < 0 || which > 1) {
            return LOST;
        }
        Sector found = sectorOf(m, sign);
        return found.restsAt(c) ? found.seenAt(i, j, which == 0) : LOST;
    }

    // ---- 2 ice

    public int weights(int kind, int a, int b, int c) {
        if (noKind(kind) || noWeights(a, b, c)) {
            return OUTSIDE;
        }
        return take(kind, a, b, c);
    }

    public int weightsOf(int kind, int sheet, int lane, int i) {
        latestFault = NO_FAULT;
        if (noSheet(sheet)) {
            return UNKNOWN;
        }
        if (noLane(lane) || noKind(kind)) {
            return OUTSIDE;
        }
        Sheet row = sheets[sheet];
        int found = faultOf(row, lane, i, 3);
        if (found != NO_FAULT || row == null) {
            return faulted(found);
        }
        int a = row.cells[i];
        int b = row.cells[i + 1];
        int c = row.cells[i + 2];
        return noWeights(a, b, c) ? OUTSIDE : take(kind, a, b, c);
    }

    public long weight(int k, int what) {
        Plain found = weightsAt(k);
        if (found == null) {
            return LOST;
        }
        switch (what) {
            case 0: return found.a;
            case 1: return found.b;
            case 2: return found.c;
            case 3: return found.kind();
            default: return LOST;
        }
    }

    public long rowEntry(int k, int n, int s, int t) {
        Plain found = weightsAt(k);
        if (found == null || noRow(n) || noState(s, n) || noState(t, n)) {
            return LOST;
        }
        return Ice.around(found, n, s, t);
    }

    public int unlike(int k, int l, int n) {
        Plain one = weightsAt(k);
        Plain other = weightsAt(l);
        if (one == null || other == null) {
            return UNKNOWN;
        }
        return noRow(n) ? OUTSIDE : iceRows().countUnlike(one, other, n);
    }

    public int ice(int k, int n, int m) {
        Plain found = weightsAt(k);
        if (found == null) {
            return UNKNOWN;
        }
        return noRow(n) || m < 1 || m > 8 ? OUTSIDE : iceRows().onRings(found, n, m);
    }

    public int walls(int k, int n) {
        Plain found = weightsAt(k);
        if (found == null) {
            return UNKNOWN;
        }
        return n < 1 || n > 6 ? OUTSIDE : iceRows().betweenWalls(found, n);
    }

    public int exchange(int k, int l, int m) {
        Plain first = weightsAt(k);
        Plain second = weightsAt(l);
        Plain third = weightsAt(m);
        if (first == null || second == null || third == null) {
            return UNKNOWN;
        }
        return iceRows().countExchange(first, second, third);
    }

    // ---- 3 words

    public int add(int k, int x, int z, int re, int im) {
        if (noSum(k)) {
            return UNKNOWN;
        }
        if (x < 0 || x > 255 || z < 0 || z > 255) {
            return OUTSIDE;
        }
        Mixer works = wordRows();
        works.merge(ledger.sumNow(k), Sum.ofOne((x << 8) | z, re, im), 1);
        return keep(k, works);
    }

    public int clear(int k) {
        if (noSum(k)) {
            return UNKNOWN;
        }
        int had = ledger.sumNow(k).count();
        ledger.recordSum(k, Sum.ofNone());
        return had;
    }

    public int asChain(int k) {
        if (noSum(k)) {
            return UNKNOWN;
        }
        Mixer works = wordRows();
        works.spell(ledger.chainNow());
        return keep(k, works);
    }

    public int join(int m, int k, int l, int way) {
        if (noSum(m) || noSum(k) || noSum(l)) {
            return UNKNOWN;
        }
        if (way < 0 || way > 3) {
            return OUTSIDE;
        }
        Mixer works = wordRows();
        Sum one = ledger.sumNow(k);
        Sum other = ledger.sumNow(l);
        if (way < 2) {
            works.multiply(one, other, way == 1);
        } else {
            works.merge(one, other, way == 2 ? 1 : -1);
        }
        return keep(m, works);
    }

    public int shift(int m, int k, int by) {
        if (noSum(m) || noSum(k)) {
            return UNKNOWN;
        }
        if (by < 0 || by > 7) {
            return OUTSIDE;
        }
        Sum found = ledger.sumNow(k);
        Chain now = ledger.chainNow();
        if (!found.within(now.states)) {
            return STATE;
        }
        Mixer works = wordRows();
        works.roll(found, now, by);
        return keep(m, works);
    }

    public long word(int k, int i, int what) {
        if (noSum(k)) {
            return LOST;
        }
        Sum found = ledger.sumNow(k);
        if (i < 0 || i >= found.count()) {
            return LOST;
        }
        switch (what) {
            case 0: return found.keys[i] >> 8;
            case 1: return found.keys[i] & 255;
            case 2: return found.reals[i];
            case 3: return found.imags[i];
            default: return LOST;
        }
    }

    public int words(int k) {
        return noSum(k) ? UNKNOWN : ledger.sumNow(k).count();
    }

    public int bracket(int k, int l) {
        if (noSum(k) || noSum(l)) {
            return UNKNOWN;
        }
        Mixer works = wordRows();
        works.multiply(ledger.sumNow(k), ledger.sumNow(l), true);
        return works.found;
    }

    public int kept(int k) {
        if (noSum(k)) {
            return UNKNOWN;
        }
        Mixer works = wordRows();
        works.spell(ledger.chainNow());
        Sum chainWords = works.result();
        works.multiply(ledger.sumNow(k), chainWords, true);
        return works.found == 0 ? 1 : 0;
    }

    // ---- 4 undo, sheets, parts

    public int undo() {
        return ledger.back() ? ledger.undoable() : STATE;
    }

    public int redo() {
        return ledger.forth() ? ledger.undoable() : STATE;
    }

    public int sheet(int k, int lane, int n) {
        latestFault = NO_FAULT;
        if (noSheet(k)) {
            return UNKNOWN;
        }
        if (noLane(lane) || n > MOST_CELLS) {
            return OUTSIDE;
        }
        if (n < 0) {
            return faulted(SIZE_FAULT);
        }
        sheets[k] = new Sheet(lane, new int[n]);
        return 1;
    }

    public int lose(int k) {
        if (noSheet(k)) {
            return UNKNOWN;
        }
        int had = sheets[k] == null ? 0 : 1;
        sheets[k] = null;
        return had;
    }

    public int put(int k, int i, int v) {
        latestFault = NO_FAULT;
        if (noSheet(k)) {
            return UNKNOWN;
        }
        Sheet row = sheets[k];
        if (row == null) {
            return faulted(NULL_FAULT);
        }
        if (!row.has(i, 1)) {
            return faulted(INDEX_FAULT);
        }
        row.cells[i] = row.cut(v);
        return 1;
    }

    public long cell(int k, int i, int lane) {
        latestFault = NO_FAULT;
        if (noSheet(k) || noLane(lane)) {
            return LOST;
        }
        Sheet row = sheets[k];
        latestFault = faultOf(row, lane, i, 1);
        if (latestFault != NO_FAULT || row == null) {
            return LOST;
        }
        return row.cells[i];
    }

    public int copy(int k, int i, int other, int j, int n) {
        latestFault = NO_FAULT;
        if (noSheet(k) || noSheet(other)) {
            return UNKNOWN;
        }
        Sheet from = sheets[k];
        Sheet to = sheets[other];
        if (from == null || to == null) {
            return faulted(NULL_FAULT);
        }
        if (from.lane != to.lane) {
            return faulted(CAST_FAULT);
        }
        if (!from.has(i, n) || !to.has(j, n)) {
            return faulted(INDEX_FAULT);
        }
        System.arraycopy(from.cells, i, to.cells, j, n);
        return n;
    }

    public int tell(int k) {
        Plain found = weightsAt(k);
        return found == null ? UNKNOWN : found.telling(trail);
    }

    public int name(int k) {
        Plain found = weightsAt(k);
        return found == null ? UNKNOWN : found.naming(trail);
    }

    public int as(int k, int kind) {
        latestFault = NO_FAULT;
        Plain found = weightsAt(k);
        if (found == null) {
            return UNKNOWN;
        }
        if (noKind(kind)) {
            return OUTSIDE;
        }
        boolean fits = kind == 0 || kind == 1 && found instanceof Turned || kind == 2 && found instanceof Signed;
        return fits ? 1 : faulted(CAST_FAULT);
    }

    public int trace() {
        return trail.left;
    }

    public int fault() {
        return latestFault;
    }

    public int many(int what) {
        Chain now = ledger.chainNow();
        switch (what) {
            case 0: return now.places;
            case 1: return now.ring ? 1 : 0;
            case 2: return now.swap;
            case 3: return 100 + now.bent;
            case 4: return now.pairs;
            case 5: return weightCount;
            case 6: return ledger.undoable();
            case 7: return ledger.redoable();
            default: return OUTSIDE;
        }
    }

    // ---- what several calls share

    private static boolean noState(int state, int places) {
        return state < 0 || state >= 1 << places;
    }

    private boolean noSector(int m, int sign) {
        return m < 0 || m > ledger.chainNow().places || sign != 1 && sign != -1;
    }

    private static boolean tooFar(int c) {
        return c < -FURTHEST || c > FURTHEST;
    }

    private static boolean noRow(int n) {
        return n < 2 || n > 6;
    }

    private static boolean noKind(int kind) {
        return kind < 0 || kind >= KINDS;
    }

    private static boolean noLane(int lane) {
        return lane < 0 || lane >= LANES;
    }

    private static boolean noSheet(int k) {
        return k < 0 || k >= SHEETS;
    }

    private static boolean noSum(int k) {
        return k < 0 || k >= SUMS;
    }

    private static boolean noWeights(int a, int b, int c) {
        return a < -9 || a > 9 || b < -9 || b > 9 || c < -9 || c > 9;
    }

    private Sector sectorOf(int m, int sign) {
        if (sector == null) {
            sector = new Sector();
        }
        sector.prepare(ledger.chainNow(), m, sign);
        return sector;
    }

    private Ice iceRows() {
        if (iceWorks == null) {
            iceWorks = new Ice();
        }
        return iceWorks;
    }

    private Mixer wordRows() {
        if (mixer == null) {
            mixer = new Mixer();
        }
        return mixer;
    }

    private Plain weightsAt(int k) {
        return k < 0 || k >= weightCount ? null : weightRows[k];
    }

    private int take(int kind, int a, int b, int c) {
        if (weightCount >= MOST_WEIGHTS) {
            return FULL;
        }
        int number = weightCount;
        if (kind == 0) {
            weightRows[number] = new Plain(number, a, b, c);
        } else if (kind == 1) {
            weightRows[number] = new Turned(number, a, b, c);
        } else {
            weightRows[number] = new Signed(number, a, b, c);
        }
        weightCount++;
        return number;
    }

    /** Makes what was mixed SUM k, unless it is SPENT. */
    private int keep(int k, Mixer works) {
        if (!works.fits()) {
            return SPENT;
        }
        ledger.recordSum(k, works.result());
        return works.found;
    }

    /** The first FAULT on the way to some cells of a row that is taken as one of a LANE. */
    private static int faultOf(Sheet row, int lane, int from, int count) {
        if (row == null) {
            return NULL_FAULT;
        }
        if (row.lane != lane) {
            return CAST_FAULT;
        }
        return row.has(from, count) ? NO_FAULT : INDEX_FAULT;
    }

    private int faulted(int found) {
        latestFault = found;
        return -10 - found;
    }

    /** THE CHAIN as it is told; it never changes, so that moments of the ledger may share it. */
    private static final class Chain {
        final int places;
        final boolean ring;
        final int swap;
        final int bent;
        final int states;
        final int pairs;

        Chain(int places, boolean ring, int swap, int bent) {
            this.places = places;
            this.ring = ring;
            this.swap = swap;
            this.bent = bent;
            states = 1 << places;
            pairs = ring ? places : places - 1;
        }

        /** The two PLACES of a PAIR as bits. */
        int pairBits(int pair) {
            return pair < places - 1 ? 3 << pair : 1 | 1 << (places - 1);
        }

        /** How many PAIRS are of just these PLACES: a RING of 2 has its one twice. */
        int pairsOf(int bits) {
            if (Integer.bitCount(bits) != 2) {
                return 0;
            }
            int found = 0;
            for (int pair = 0; pair < pairs; pair++) {
                if (pairBits(pair) == bits) {
                    found++;
                }
            }
            return found;
        }

        /** Each PLACE's bit goes to the next PLACE, whether THE CHAIN is a RING or not. */
        int onward(int bits) {
            return (bits << 1 | bits >> (places - 1)) & (states - 1);
        }

        int mirrored(int bits) {
            int back = 0;
            for (int place = 0; place < places; place++) {
                back = back << 1 | bits >> place & 1;
            }
            return back;
        }

        int turn(int state) {
            return ring ? onward(state) : mirrored(state);
        }

        /** How often H of a STATE has that STATE itself: d for each PAIR that is alike, less d for each other one. */
        int stay(int state) {
            int changes = ring ? state ^ onward(state) : (state ^ state >> 1) & (states / 2 - 1);
            return bent * (pairs - 2 * Integer.bitCount(changes));
        }

        /** How often H of one STATE has another. */
        int hop(int from, int to) {
            if (from == to) {
                return stay(from);
            }
            int changed = from ^ to;
            int ups = from & changed;
            // Both UP or both down: such a PAIR is alike, so H does not change it.
            if (ups == 0 || ups == changed) {
                return 0;
            }
            return swap * pairsOf(changed);
        }
    }

    /** One SECTOR of a CHAIN, worked out as far as it is asked for and kept until another one is. */
    private static final class Sector {
        // OPEN, 8 PLACES, 4 UP has the most ORBITS: 38; and M alone the most STATES: 70.
        final int[] heads = new int[38];
        final int[] members = new int[70];
        final long[] table = new long[MOST_ORBITS * MOST_ORBITS];
        final long[] coefficients = new long[MOST_ORBITS + 1];
        final long[] shifted = new long[MOST_ORBITS + 1];
        final long[] shares = new long[MOST_ORBITS];
        final long[] spare = new long[MOST_ORBITS + 1];
        final long[] column = new long[MOST_ORBITS + 1];
        long[] once = null;
        long[] twice = null;
        Chain of = null;
        int up = 0;
        int sign = 0;
        int orbits = 0;
        boolean solved = false;
        boolean restTried = false;
        boolean restFits = false;
        int restAt = 0;

        void prepare(Chain chain, int m, int s) {
            if (of == chain && up == m && sign == s) {
                return;
            }
            of = chain;
            up = m;
            sign = s;
            solved = false;
            restTried = false;
            orbits = 0;
            for (int state = 0; state < chain.states; state++) {
                if (Integer.bitCount(state) == m && leads(state) && orbits < heads.length) {
                    heads[orbits] = state;
                    orbits++;
                }
            }
        }

        /** Whether a STATE is the HEAD of an ORBIT of this SECTOR. */
        boolean leads(int state) {
            int length = orbitLength(state);
            if (length == 0) {
                return false;
            }
            // A STATE comes of itself by its ORBIT's length of TURNS and by its multiples.
            return sign == 1 || length % 2 == 0;
        }

        /** How many STATES the ORBIT of a HEAD has; 0: the STATE is no HEAD. */
        int orbitLength(int state) {
            int next = of.turn(state);
            int length = 1;
            while (next != state && length < 8) {
                if (next < state) {
                    return 0;
                }
                next = of.turn(next);
                length++;
            }
            return length;
        }

        boolean hasOrbit(int i) {
            return i >= 0 && i < orbits && i < heads.length;
        }

        /** Makes ITS TABLE and ITS POLYNOMIAL; false: the SECTOR is SPENT. */
        boolean solve() {
            if (orbits > MOST_ORBITS) {
                return false;
            }
            if (!solved) {
                fillTable();
                findPolynomial();
                solved = true;
            }
            return true;
        }

        void fillTable() {
            Arrays.fill(table, 0);
            for (int j = 0; j < orbits; j++) {
                int state = heads[j];
                int length = orbitLength(state);
                int signOfState = 1;
                for (int turns = 0; turns < length; turns++) {
                    for (int i = 0; i < orbits; i++) {
                        table[i * MOST_ORBITS + j] += signOfState * of.hop(state, heads[i]);
                    }
                    state = of.turn(state);
                    signOfState *= sign;
                }
            }
        }

        /**
         * Berkowitz' way, one row and column more at a time: it never divides, so that numbers that wrap between
         * do no harm as long as the coefficients themselves are longs (they are below 50 to the 10).
         */
        void findPolynomial() {
            Arrays.fill(coefficients, 0);
            coefficients[0] = 1;
            for (int r = 0; r < orbits; r++) {
                findStep(r);
                for (int k = r + 1; k >= 0; k--) {
                    long sum = 0;
                    for (int j = 0; j <= k && j <= r; j++) {
                        sum += spare[k - j] * coefficients[j];
                    }
                    coefficients[k] = sum;
                }
            }
            // They came from the highest power down.
            for (int k = 0; 2 * k < orbits; k++) {
                long kept = coefficients[k];
                coefficients[k] = coefficients[orbits - k];
                coefficients[orbits - k] = kept;
            }
        }

        /** The row by which the polynomial of the first r ORBITS becomes that of one more. */
        void findStep(int r) {
            spare[0] = 1;
            spare[1] = -table[r * MOST_ORBITS + r];
            for (int i = 0; i < r; i++) {
                column[i] = table[i * MOST_ORBITS + r];
            }
            for (int k = 2; k <= r + 1; k++) {
                spare[k] = -rowTimes(r, r, column);
                for (int i = 0; i < r; i++) {
                    shifted[i] = rowTimes(i, r, column);
                }
                System.arraycopy(shifted, 0, column, 0, r);
            }
        }

        /** The first cells of a row of ITS TABLE, times numbers, added. */
        long rowTimes(int row, int count, long[] numbers) {
            long sum = 0;
            for (int j = 0; j < count; j++) {
                sum += table[row * MOST_ORBITS + j] * numbers[j];
            }
            return sum;
        }

        /** ITS POLYNOMIAL of x + c: its roots are the OWN NUMBERS, each less c. It fits for each c of -50 .. 50. */
        void shiftBy(int c) {
            System.arraycopy(coefficients, 0, shifted, 0, orbits + 1);
            for (int i = 0; i < orbits; i++) {
                for (int j = orbits - 1; j >= i; j--) {
                    shifted[j] += c * shifted[j + 1];
                }
            }
        }

        int rootsAt(int c) {
            shiftBy(c);
            int found = 0;
            while (found < orbits && shifted[found] == 0) {
                found++;
            }
            return found;
        }

        /** As all roots are real, those above 0 are just as many as the changes of sign (Descartes). */
        int rootsAbove(int c) {
            shiftBy(c);
            int changes = 0;
            boolean minus = false;
            for (int k = orbits; k >= 0; k--) {
                if (shifted[k] != 0 && shifted[k] < 0 != minus) {
                    minus = !minus;
                    changes++;
                }
            }
            return changes;
        }

        /** No OWN NUMBER is above 48 in size: 8 PAIRS, each at most 4 and 2. */
        int wholeRoots() {
            int found = 0;
            for (int c = -FURTHEST; c <= FURTHEST; c++) {
                if (valueAt(c) == 0) {
                    found += rootsAt(c);
                }
            }
            return found;
        }

        long valueAt(int c) {
            long value = 0;
            for (int k = orbits; k >= 0; k--) {
                value = value * c + coefficients[k];
            }
            return value;
        }

        /** Newton's way from coefficients to power sums: it does not divide. */
        long powerSum(int n) {
            for (int k = 1; k <= n; k++) {
                long sum = k * fromTop(k);
                for (int j = 1; j < k; j++) {
                    sum += fromTop(j) * spare[k - j];
                }
                spare[k] = -sum;
            }
            return spare[n];
        }

        long fromTop(int k) {
            return k <= orbits ? coefficients[orbits - k] : 0;
        }

        long powerSumOfAll(int n) {
            if (once == null || twice == null) {
                once = new long[256];
                twice = new long[256];
            }
            int count = 0;
            for (int state = 0; state < of.states; state++) {
                if (Integer.bitCount(state) == up && count < members.length) {
                    members[count] = state;
                    count++;
                }
            }
            long sum = 0;
            for (int i = 0; i < count; i++) {
                sum += n == 1 ? of.stay(members[i]) : atItself(members[i], count, n);
            }
            return sum;
        }

        /** H done n times (2 .. 4) at the STATE itself: as H is symmetric, half of it from either side. */
        long atItself(int state, int count, int n) {
            for (int i = 0; i < count; i++) {
                once[members[i]] = 0;
                twice[members[i]] = 0;
            }
            spread(state, 1, once);
            for (int i = 0; i < count && n > 2; i++) {
                if (once[members[i]] != 0) {
                    spread(members[i], once[members[i]], twice);
                }
            }
            long sum = 0;
            for (int i = 0; i < count; i++) {
                long left = n == 4 ? twice[members[i]] : once[members[i]];
                long right = n == 2 ? once[members[i]] : twice[members[i]];
                sum += left * right;
            }
            return sum;
        }

        /** Adds so many times H of a STATE. */
        void spread(int state, long times, long[] into) {
            into[state] += times * of.stay(state);
            for (int pair = 0; pair < of.pairs; pair++) {
                int bits = of.pairBits(pair);
                int ups = state & bits;
                if (ups != 0 && ups != bits) {
                    into[state ^ bits] += times * of.swap;
                }
            }
        }

        /** Finds REST at c; false: there is none, or it is SPENT. */
        boolean restsAt(int c) {
            if (!solve()) {
                return false;
            }
            if (!restTried || restAt != c) {
                restTried = true;
                restAt = c;
                restFits = rootsAt(c) == 1 && findRest(c);
            }
            return restFits;
        }

        /**
         * As ITS TABLE makes ITS POLYNOMIAL 0, the table less c makes each column of the polynomial without the root
         * c 0: a column that is not 0 is REST but for a divisor, and until that one nothing needs to be divided.
         */
        boolean findRest(int c) {
            spare[orbits - 1] = 1;
            for (int k = orbits - 1; k > 0; k--) {
                spare[k - 1] = coefficients[k] + c * spare[k];
            }
            long divisor = 0;
            for (int j = 0; j < orbits && divisor == 0; j++) {
                applyToUnit(j);
                for (int i = 0; i < orbits; i++) {
                    divisor = commonDivisor(divisor, shares[i]);
                }
            }
            return divisor != 0 && reduceShares(divisor);
        }

        /** The polynomial in spare, of ITS TABLE, its column j: into shares. */
        void applyToUnit(int j) {
            Arrays.fill(shares, 0);
            shares[j] = 1;
            for (int k = orbits - 2; k >= 0; k--) {
                System.arraycopy(shares, 0, column, 0, orbits);
                for (int i = 0; i < orbits; i++) {
                    shares[i] = rowTimes(i, orbits, column);
                }
                shares[j] += spare[k];
            }
        }

        boolean reduceShares(long divisor) {
            boolean fits = divisor != 0;
            long by = 0;
            for (int i = 0; i < orbits && fits; i++) {
                if (by == 0 && shares[i] != 0) {
                    by = shares[i] > 0 ? divisor : -divisor;
                }
                if (by != 0) {
                    shares[i] /= by;
                }
                fits = Math.abs(shares[i]) <= LIMIT;
            }
            return fits;
        }

        long seenAt(int i, int j, boolean upper) {
            long sum = 0;
            long all = 0;
            for (int orbit = 0; orbit < orbits; orbit++) {
                long square = shares[orbit] * shares[orbit];
                int state = heads[orbit];
                int length = orbitLength(state);
                for (int turns = 0; turns < length; turns++) {
                    boolean alike = (state >> i & 1) == (state >> j & 1);
                    sum += alike ? square : -square;
                    all += square;
                    state = of.turn(state);
                }
            }
            long divisor = commonDivisor(sum, all);
            if (divisor == 0) {
                return LOST;
            }
            return (upper ? sum : all) / divisor;
        }

        /** 0 or above; of 0 and a number that number's size. */
        static long commonDivisor(long one, long other) {
            long a = Math.abs(one);
            long b = Math.abs(other);
            // Longs need fewer than 100 steps.
            for (int steps = 0; steps < 200 && b != 0; steps++) {
                long left = a % b;
                a = b;
                b = left;
            }
            return a;
        }
    }

    /** WEIGHTS of kind 0, and what the others have of it; a, b, c are held as they count. */
    private static class Plain {
        final int number;
        final int a;
        final int b;
        final int c;

        Plain(int number, int a, int b, int c) {
            this.number = number;
            this.a = a;
            this.b = b;
            this.c = c;
        }

        int kind() {
            return 0;
        }

        int crossing(int l, int u, int r, int o) {
            if (l == r && u == o) {
                return l == u ? a : b;
            }
            return l == o && u == r ? c : 0;
        }

        int telling(Trail trail) {
            return plainTelling(trail);
        }

        /** Apart from telling(), so that SIGNED ones come to it past TURNED ones' own. */
        final int plainTelling(Trail trail) {
            trail.leave(1);
            return a;
        }

        int naming(Trail trail) {
            trail.leave(4);
            return number;
        }
    }

    private static class Turned extends Plain {
        Turned(int number, int a, int b, int c) {
            super(number, b, a, c);
        }

        int kind() {
            return 1;
        }

        int telling(Trail trail) {
            trail.leave(2);
            return super.telling(trail) + 100;
        }
    }

    private static final class Signed extends Turned {
        Signed(int number, int a, int b, int c) {
            super(number, a, b, -c);
        }

        int kind() {
            return 2;
        }

        int telling(Trail trail) {
            trail.leave(3);
            int turnedGives = super.telling(trail);
            return turnedGives + plainTelling(trail);
        }

        int naming(Trail trail) {
            trail.leave(5);
            return 60;
        }
    }

    /** TRACE. */
    private static final class Trail {
        int left = 0;

        void leave(int number) {
            left = 31 * left + number;
        }
    }

    /** Tables of WEIGHTS. A row keeps how many are UP, so that tables fall into blocks of at most 20 STATES. */
    private static final class Ice {
        static final int BLOCK = 20;
        final int[] members = new int[BLOCK];
        final long[] base = new long[BLOCK * BLOCK];
        final long[] square = new long[BLOCK * BLOCK];
        final long[] high = new long[BLOCK * BLOCK];
        final long[] odd = new long[BLOCK * BLOCK];
        final long[] ways = new long[64];
        final long[] here = new long[8];
        final long[] there = new long[8];
        final long[] next = new long[8];

        /** The product along a row from its first edge's bit to its last one's: the bits between follow from it. */
        static long along(Plain w, int n, int s, int t, int first, int last) {
            long product = 1;
            int l = first;
            for (int place = 0; place < n; place++) {
                int u = s >> place & 1;
                int o = t >> place & 1;
                // Any CROSSING that is not 0 lets as many 1 out as in.
                int r = l + u - o;
                if (r < 0 || r > 1) {
                    return 0;
                }
                product *= w.crossing(l, u, r, o);
                l = r;
            }
            return l == last ? product : 0;
        }

        static long around(Plain w, int n, int s, int t) {
            return along(w, n, s, t, 0, 0) + along(w, n, s, t, 1, 1);
        }

        /** The STATES of a row with so many UP: how many. */
        int gather(int n, int up) {
            int count = 0;
            for (int state = 0; state < 1 << n; state++) {
                if (Integer.bitCount(state) == up && count < BLOCK) {
                    members[count] = state;
                    count++;
                }
            }
            return count;
        }

        void fillBlock(Plain w, int n, int size, long[] block) {
            for (int i = 0; i < size; i++) {
                for (int j = 0; j < size; j++) {
                    block[i * BLOCK + j] = around(w, n, members[i], members[j]);
                }
            }
        }

        /** A block and that with all bits changed are the same, as WEIGHTS are: it counts twice. */
        static int timesCounted(int n, int up) {
            return 2 * up == n ? 1 : 2;
        }

        int countUnlike(Plain one, Plain other, int n) {
            int unlikes = 0;
            for (int up = 0; 2 * up <= n; up++) {
                int size = gather(n, up);
                fillBlock(one, n, size, base);
                fillBlock(other, n, size, square);
                int found = 0;
                for (int i = 0; i < size; i++) {
                    for (int j = 0; j < size; j++) {
                        if (product(base, square, size, i, j) != product(square, base, size, i, j)) {
                            found++;
                        }
                    }
                }
                unlikes += timesCounted(n, up) * found;
            }
            return unlikes;
        }

        /** One entry of a product of blocks; entries of rows of 6 are below 2000000, so that it is a long. */
        static long product(long[] left, long[] right, int size, int i, int j) {
            long sum = 0;
            for (int k = 0; k < size; k++) {
                sum += left[i * BLOCK + k] * right[k * BLOCK + j];
            }
            return sum;
        }

        int onRings(Plain w, int n, int m) {
            long total = 0;
            for (int up = 0; 2 * up <= n; up++) {
                int size = gather(n, up);
                fillBlock(w, n, size, base);
                for (int i = 0; i < size; i++) {
                    for (int j = 0; j < size; j++) {
                        base[i * BLOCK + j] = Math.floorMod(base[i * BLOCK + j], PRIME);
                    }
                }
                total += timesCounted(n, up) * diagonalOf(size, m);
            }
            return (int) (total % PRIME);
        }

        /** The sum on the diagonal of base done m times: of two halves no whole product is needed. */
        long diagonalOf(int size, int m) {
            long sum = 0;
            if (m == 1) {
                for (int i = 0; i < size; i++) {
                    sum += base[i * BLOCK + i];
                }
                return sum % PRIME;
            }
            long[] half = raised(size, m / 2);
            long[] otherHalf = half;
            if (m % 2 == 1) {
                multiplyRest(half, base, odd, size);
                otherHalf = odd;
            }
            for (int i = 0; i < size; i++) {
                for (int j = 0; j < size; j++) {
                    sum = (sum + half[i * BLOCK + j] * otherHalf[j * BLOCK + i]) % PRIME;
                }
            }
            return sum;
        }

        /** base done n times, 1 .. 4. */
        long[] raised(int size, int n) {
            if (n == 1) {
                return base;
            }
            multiplyRest(base, base, square, size);
            if (n == 2) {
                return square;
            }
            multiplyRest(square, n == 3 ? base : square, high, size);
            return high;
        }

        static void multiplyRest(long[] left, long[] right, long[] into, int size) {
            for (int i = 0; i < size; i++) {
                for (int j = 0; j < size; j++) {
                    long sum = 0;
                    for (int k = 0; k < size; k++) {
                        sum = (sum + left[i * BLOCK + k] * right[k * BLOCK + j]) % PRIME;
                    }
                    into[i * BLOCK + j] = sum;
                }
            }
        }

        /** From row to row one more is UP: a 1 comes in from the left and a 0 goes out to the right. */
        int betweenWalls(Plain w, int n) {
            Arrays.fill(ways, 0);
            ways[0] = 1;
            for (int row = 0; row < n; row++) {
                for (int t = 0; t < 1 << n; t++) {
                    if (Integer.bitCount(t) == row + 1) {
                        ways[t] = waysTo(w, n, t, row);
                    }
                }
            }
            return (int) ways[(1 << n) - 1];
        }

        long waysTo(Plain w, int n, int t, int row) {
            long sum = 0;
            for (int s = 0; s < 1 << n; s++) {
                if (Integer.bitCount(s) == row) {
                    sum = Math.floorMod(sum + ways[s] * along(w, n, s, t, 1, 0), PRIME);
                }
            }
            return sum;
        }

        int countExchange(Plain k, Plain l, Plain m) {
            int unlikes = 0;
            for (int from = 0; from < 8; from++) {
                Arrays.fill(here, 0);
                here[from] = 1;
                apply(k, 0, 1, here);
                apply(l, 0, 2, here);
                apply(m, 1, 2, here);
                Arrays.fill(there, 0);
                there[from] = 1;
                apply(m, 1, 2, there);
                apply(l, 0, 2, there);
                apply(k, 0, 1, there);
                for (int to = 0; to < 8; to++) {
                    if (here[to] != there[to]) {
                        unlikes++;
                    }
                }
            }
            return unlikes;
        }

        /** The table of WEIGHTS on two of three bits. */
        void apply(Plain w, int one, int other, long[] vector) {
            Arrays.fill(next, 0);
            for (int bits = 0; bits < 8; bits++) {
                int x = bits >> one & 1;
                int y = bits >> other & 1;
                int third = bits & ~(1 << one | 1 << other);
                for (int to = 0; to < 4 && vector[bits] != 0; to++) {
                    int z = to & 1;
                    int v = to >> 1;
                    next[third | z << one | v << other] += vector[bits] * w.crossing(x, y, z, v);
                }
            }
            System.arraycopy(next, 0, vector, 0, 8);
        }
    }

    /** A SUM; it never changes, so that moments of the ledger may share it. A key is x times 256 and z. */
    private static final class Sum {
        final int[] keys;
        final int[] reals;
        final int[] imags;

        Sum(int[] keys, int[] reals, int[] imags) {
            this.keys = keys;
            this.reals = reals;
            this.imags = imags;
        }

        static Sum ofNone() {
            return new Sum(new int[0], new int[0], new int[0]);
        }

        /** It may have any numbers, 0 too: it is only mixed with another one. */
        static Sum ofOne(int key, int re, int im) {
            Sum one = new Sum(new int[1], new int[1], new int[1]);
            one.keys[0] = key;
            one.reals[0] = re;
            one.imags[0] = im;
            return one;
        }

        int count() {
            return keys.length;
        }

        /** Whether all letters are at PLACES of a CHAIN of so many STATES. */
        boolean within(int states) {
            for (int i = 0; i < keys.length; i++) {
                if (keys[i] >> 8 >= states || (keys[i] & 255) >= states) {
                    return false;
                }
            }
            return true;
        }
    }

    /** Makes new SUMS: WORDS come to it in order, those beyond 60 are only counted. */
    private static final class Mixer {
        final int[] keys = new int[MOST_WORDS];
        final int[] reals = new int[MOST_WORDS];
        final int[] imags = new int[MOST_WORDS];
        final int[] starts = new int[257];
        // A WORD of the first SUM by one of the second: the key of the product, and both places of 6 bits each.
        int[] pairs = new int[64];
        int[] sorted = new int[64];
        int found = 0;
        boolean huge = false;
        long re = 0;
        long im = 0;

        void begin() {
            found = 0;
            huge = false;
        }

        void emit(int key, long real, long imag) {
            if (real == 0 && imag == 0) {
                return;
            }
            if (found < MOST_WORDS) {
                keys[found] = key;
                reals[found] = (int) real;
                imags[found] = (int) imag;
            }
            found++;
            huge = huge || Math.abs(real) > LIMIT || Math.abs(imag) > LIMIT;
        }

        boolean fits() {
            return found <= MOST_WORDS && !huge;
        }

        Sum result() {
            int count = Math.min(found, MOST_WORDS);
            return new Sum(Arrays.copyOf(keys, count), Arrays.copyOf(reals, count), Arrays.copyOf(imags, count));
        }

        /** One SUM and so many times another one. */
        void merge(Sum one, Sum other, long times) {
            begin();
            int i = 0;
            int j = 0;
            int most = one.count() + other.count();
            for (int step = 0; step < most && i + j < most; step++) {
                boolean left = j >= other.count() || i < one.count() && one.keys[i] <= other.keys[j];
                boolean right = i >= one.count() || j < other.count() && other.keys[j] <= one.keys[i];
                int key = left ? one.keys[i] : other.keys[j];
                re = 0;
                im = 0;
                if (left) {
                    re += one.reals[i];
                    im += one.imags[i];
                    i++;
                }
                if (right) {
                    re += times * other.reals[j];
                    im += times * other.imags[j];
                    j++;
                }
                emit(key, re, im);
            }
        }

        /** THE CHAIN as a SUM: by x, then by z, so Z Z of all PAIRS come first. */
        void spell(Chain chain) {
            begin();
            for (int bits = 1; bits < chain.states; bits++) {
                emit(bits, 2L * chain.bent * chain.pairsOf(bits), 0);
            }
            for (int bits = 1; bits < chain.states; bits++) {
                int times = chain.swap * chain.pairsOf(bits);
                emit(bits << 8, times, 0);
                emit(bits << 8 | bits, times, 0);
            }
        }

        void roll(Sum sum, Chain chain, int by) {
            begin();
            makeRoom(sum.count());
            for (int i = 0; i < sum.count(); i++) {
                int x = sum.keys[i] >> 8;
                int z = sum.keys[i] & 255;
                for (int step = 0; step < by; step++) {
                    x = chain.onward(x);
                    z = chain.onward(z);
                }
                pairs[i] = (x << 8 | z) << 12 | i;
            }
            sortPairs(sum.count());
            for (int at = 0; at < sum.count(); at++) {
                int i = pairs[at] & 4095;
                emit(pairs[at] >> 12, sum.reals[i], sum.imags[i]);
            }
        }

        /** The product of two SUMS, or their BRACKET: WORDS that change places freely fall out, others count twice. */
        void multiply(Sum one, Sum other, boolean bracket) {
            begin();
            makeRoom(one.count() * other.count());
            int count = 0;
            for (int i = 0; i < one.count(); i++) {
                for (int j = 0; j < other.count(); j++) {
                    if (!bracket || !changePlaces(one.keys[i], other.keys[j])) {
                        pairs[count] = (one.keys[i] ^ other.keys[j]) << 12 | i << 6 | j;
                        count++;
                    }
                }
            }
            sortPairs(count);
            long times = bracket ? 2 : 1;
            re = 0;
            im = 0;
            for (int at = 0; at < count; at++) {
                int key = pairs[at] >> 12;
                addProduct(one, pairs[at] >> 6 & 63, other, pairs[at] & 63);
                if (at + 1 == count || pairs[at + 1] >> 12 != key) {
                    emit(key, times * re, times * im);
                    re = 0;
                    im = 0;
                }
            }
        }

        /** Whether two WORDS give the same either way round: each X or Y that meets a Z or Y turns the sign. */
        static boolean changePlaces(int one, int other) {
            int turns = Integer.bitCount((one >> 8) & other & 255) + Integer.bitCount((other >> 8) & one & 255);
            return turns % 2 == 0;
        }

        static int countY(int key) {
            return Integer.bitCount((key >> 8) & key & 255);
        }

        /**
         * Y is i X Z, so a WORD is i, as often as it has Y, times its X, then its Z; the first WORD's Z pass the
         * second one's X, each with less 1 where they meet.
         */
        static int quarterTurns(int one, int other) {
            int passed = Integer.bitCount(one & 255 & (other >> 8));
            return countY(one) + countY(other) + 2 * passed - countY(one ^ other) & 3;
        }

        void addProduct(Sum one, int i, Sum other, int j) {
            long real = (long) one.reals[i] * other.reals[j] - (long) one.imags[i] * other.imags[j];
            long imag = (long) one.reals[i] * other.imags[j] + (long) one.imags[i] * other.reals[j];
            switch (quarterTurns(one.keys[i], other.keys[j])) {
                case 0:
                    re += real;
                    im += imag;
                    break;
                case 1:
                    re -= imag;
                    im += real;
                    break;
                case 2:
                    re -= real;
                    im -= imag;
                    break;
                default:
                    re += imag;
                    im -= real;
                    break;
            }
        }

        /** At most 60 by 60 are ever needed. */
        void makeRoom(int needed) {
            int room = pairs.length;
            while (room < needed && room < 4096) {
                room *= 2;
            }
            if (room > pairs.length) {
                pairs = new int[room];
                sorted = new int[room];
            }
        }

        /** By key: by its lower half, then by its upper one, each keeping the order that was. */
        void sortPairs(int count) {
            sortByByte(pairs, sorted, count, 12);
            sortByByte(sorted, pairs, count, 20);
        }

        void sortByByte(int[] from, int[] to, int count, int bit) {
            Arrays.fill(starts, 0);
            for (int i = 0; i < count; i++) {
                starts[(from[i] >> bit & 255) + 1]++;
            }
            for (int value = 0; value < 256; value++) {
                starts[value + 1] += starts[value];
            }
            for (int i = 0; i < count; i++) {
                int value = from[i] >> bit & 255;
                to[starts[value]] = from[i];
                starts[value]++;
            }
        }
    }

    /** The moments ahead of and behind acts: THE CHAIN and all SUMS at each. */
    private static final class Ledger {
        final Chain[] chains = new Chain[MOST_ACTS + 1];
        final Sum[] sums = new Sum[(MOST_ACTS + 1) * SUMS];
        int now = 0;
        int last = 0;

        Ledger(Chain first) {
            chains[0] = first;
            Sum none = Sum.ofNone();
            for (int k = 0; k < SUMS; k++) {
                sums[k] = none;
            }
        }

        Chain chainNow() {
            return chains[now];
        }

        Sum sumNow(int k) {
            return sums[now * SUMS + k];
        }

        void recordChain(Chain chain) {
            step();
            chains[now] = chain;
        }

        void recordSum(int k, Sum sum) {
            step();
            sums[now * SUMS + k] = sum;
        }

        /** A new moment like the one that is; the oldest is forgotten where there is no place for it. */
        private void step() {
            if (now == MOST_ACTS) {
                for (int moment = 0; moment < MOST_ACTS; moment++) {
                    copyMoment(moment + 1, moment);
                }
                now--;
            }
            copyMoment(now, now + 1);
            now++;
            last = now;
        }

        private void copyMoment(int from, int to) {
            chains[to] = chains[from];
            for (int k = 0; k < SUMS; k++) {
                sums[to * SUMS + k] = sums[from * SUMS + k];
            }
        }

        boolean back() {
            if (now == 0) {
                return false;
            }
            now--;
            return true;
        }

        boolean forth() {
            if (now >= last) {
                return false;
            }
            now++;
            return true;
        }

        int undoable() {
            return now;
        }

        int redoable() {
            return last - now;
        }
    }

    /** A SHEET's row: each cell is held cut to its LANE. */
    private static final class Sheet {
        final int lane;
        final int[] cells;

        Sheet(int lane, int[] cells) {
            this.lane = lane;
            this.cells = cells;
        }

        int cut(int value) {
            if (lane == 0) {
                return (byte) value;
            }
            return lane == 1 ? (short) value : value;
        }

        boolean has(int from, int count) {
            return from >= 0 && count >= 0 && from <= cells.length - count;
        }
    }
}
