import java.math.BigInteger;
import java.util.ArrayDeque;
import java.util.ArrayList;
import java.util.Arrays;
import java.util.Deque;
import java.util.HashMap;
import java.util.List;
import java.util.Map;
import java.util.TreeMap;
import java.util.TreeSet;

/**
 * The document again, read word for word and done the long way round: maps, BigIntegers, all bits on all edges, real
 * arrays with the machine's own exceptions. It is slow and shares nothing with the program, so that both may be
 * held against one another.
 */
public final class Model {
    static final int UNKNOWN = -1, OUTSIDE = -2, STATE = -3, FULL = -4, SPENT = -6;
    static final long LOST = Long.MIN_VALUE;
    private static final long PRIME = 1000000007L;
    private static final BigInteger MILLION = BigInteger.valueOf(1000000);

    /** What may be undone. */
    private static final class Moment {
        int n;
        boolean ring;
        int e;
        int d;
        List<TreeMap<Integer, BigInteger[]>> sums = new ArrayList<>();
    }

    /** A SECTOR of a chain, kept for all models. */
    static final class Sector {
        final List<List<Integer>> orbits = new ArrayList<>();
        BigInteger[][] table;
        BigInteger[] poly;
        double[] own;
        final Map<Integer, BigInteger[]> rests = new HashMap<>();
    }

    private static final Map<String, Sector> KNOWN = new HashMap<>();

    private int n = 6;
    private boolean ring = true;
    private int e = 2;
    private int d = 1;
    private List<TreeMap<Integer, BigInteger[]>> sums = new ArrayList<>();
    private final Deque<Moment> undos = new ArrayDeque<>();
    private final Deque<Moment> redos = new ArrayDeque<>();
    private final List<int[]> weightRows = new ArrayList<>();
    private final Object[] sheets = new Object[4];
    private int traceNow = 0;
    private int faultNow = 0;

    public Model() {
        for (int k = 0; k < 4; k++) {
            sums.add(new TreeMap<>());
        }
    }

    // ---- 1 the chain

    public int chain(int places, boolean asRing, int swap, int bent) {
        if (places < 2 || places > 8 || swap < 1 || swap > 4 || bent < -2 || bent > 2) {
            return OUTSIDE;
        }
        remember();
        n = places;
        ring = asRing;
        e = swap;
        d = bent;
        return (int) Math.pow(2, n);
    }

    private List<int[]> pairList() {
        List<int[]> pairs = new ArrayList<>();
        for (int i = 0; i <= n - 2; i++) {
            pairs.add(new int[] {i, i + 1});
        }
        if (ring) {
            pairs.add(new int[] {n - 1, 0});
        }
        return pairs;
    }

    private TreeMap<Integer, Long> h(int state) {
        TreeMap<Integer, Long> out = new TreeMap<>();
        for (int[] pair : pairList()) {
            boolean first = (state & (1 << pair[0])) != 0;
            boolean second = (state & (1 << pair[1])) != 0;
            if (first == second) {
                out.merge(state, (long) d, Long::sum);
            } else {
                int changed = state;
                changed = first ? changed | (1 << pair[1]) : changed & ~(1 << pair[1]);
                changed = second ? changed | (1 << pair[0]) : changed & ~(1 << pair[0]);
                out.merge(changed, (long) e, Long::sum);
                out.merge(state, (long) -d, Long::sum);
            }
        }
        return out;
    }

    private boolean stateOf(int state, int places) {
        return state >= 0 && state <= Math.pow(2, places) - 1;
    }

    public long act(int from, int to) {
        if (!stateOf(from, n) || !stateOf(to, n)) {
            return LOST;
        }
        return h(from).getOrDefault(to, 0L);
    }

    private int turn(int state) {
        int out = 0;
        for (int i = 0; i < n; i++) {
            if ((state >> i & 1) == 1) {
                out |= 1 << (ring ? (i == n - 1 ? 0 : i + 1) : n - 1 - i);
            }
        }
        return out;
    }

    public int turned(int state) {
        return stateOf(state, n) ? turn(state) : OUTSIDE;
    }

    private boolean sectorOutside(int m, int sign) {
        return m < 0 || m > n || sign != 1 && sign != -1;
    }

    private Sector sector(int m, int sign) {
        String key = n + " " + ring + " " + e + " " + d + " " + m + " " + sign;
        Sector sector = KNOWN.get(key);
        if (sector == null) {
            sector = findSector(m, sign);
            KNOWN.put(key, sector);
        }
        return sector;
    }

    private Sector findSector(int m, int sign) {
        Sector sector = new Sector();
        TreeSet<Integer> done = new TreeSet<>();
        for (int s = 0; s < 1 << n; s++) {
            int ups = 0;
            for (int i = 0; i < n; i++) {
                ups += s >> i & 1;
            }
            if (ups != m || done.contains(s)) {
                continue;
            }
            List<Integer> orbit = new ArrayList<>();
            for (int t = s; !orbit.contains(t); t = turn(t)) {
                orbit.add(t);
                done.add(t);
            }
            boolean odd = false;
            int t = s;
            for (int turns = 1; turns <= 40; turns++) {
                t = turn(t);
                odd |= t == s && turns % 2 == 1;
            }
            if (sign == 1 || !odd) {
                sector.orbits.add(orbit);
            }
        }
        if (sector.orbits.size() <= 10) {
            solve(sector, sign);
        }
        return sector;
    }

    private void solve(Sector sector, int sign) {
        int size = sector.orbits.size();
        sector.table = new BigInteger[size][size];
        double[][] even = new double[size][size];
        for (int i = 0; i < size; i++) {
            for (int j = 0; j < size; j++) {
                long sum = 0;
                List<Integer> orbit = sector.orbits.get(j);
                for (int turns = 0; turns < orbit.size(); turns++) {
                    long signOfState = sign == -1 && turns % 2 == 1 ? -1 : 1;
                    sum += signOfState * h(orbit.get(turns)).getOrDefault(sector.orbits.get(i).get(0), 0L);
                }
                sector.table[i][j] = BigInteger.valueOf(sum);
                even[i][j] = sum * Math.sqrt((double) sector.orbits.get(i).size() / orbit.size());
            }
        }
        sector.poly = polynomial(sector.table);
        sector.own = jacobi(even);
    }

    static BigInteger[][] times(BigInteger[][] a, BigInteger[][] b) {
        int size = a.length;
        BigInteger[][] out = new BigInteger[size][size];
        for (int i = 0; i < size; i++) {
            for (int j = 0; j < size; j++) {
                out[i][j] = BigInteger.ZERO;
                for (int k = 0; k < size; k++) {
                    out[i][j] = out[i][j].add(a[i][k].multiply(b[k][j]));
                }
            }
        }
        return out;
    }

    /** Faddeev and LeVerrier's way. */
    private static BigInteger[] polynomial(BigInteger[][] a) {
        int size = a.length;
        BigInteger[] poly = new BigInteger[size + 1];
        poly[size] = BigInteger.ONE;
        BigInteger[][] m = new BigInteger[size][size];
        for (BigInteger[] row : m) {
            Arrays.fill(row, BigInteger.ZERO);
        }
        for (int k = 1; k <= size; k++) {
            m = times(a, m);
            for (int i = 0; i < size; i++) {
                m[i][i] = m[i][i].add(poly[size - k + 1]);
            }
            BigInteger trace = BigInteger.ZERO;
            BigInteger[][] am = times(a, m);
            for (int i = 0; i < size; i++) {
                trace = trace.add(am[i][i]);
            }
            poly[size - k] = trace.negate().divide(BigInteger.valueOf(k));
        }
        return poly;
    }

    /** The own numbers of a symmetric table, near enough. */
    private static double[] jacobi(double[][] a) {
        int size = a.length;
        for (int round = 0; round < 100; round++) {
            for (int p = 0; p < size; p++) {
                for (int q = p + 1; q < size; q++) {
                    if (Math.abs(a[p][q]) > 1e-14) {
                        rotate(a, p, q);
                    }
                }
            }
        }
        double[] own = new double[size];
        for (int i = 0; i < size; i++) {
            own[i] = a[i][i];
        }
        return own;
    }

    private static void rotate(double[][] a, int p, int q) {
        double theta = (a[q][q] - a[p][p]) / (2 * a[p][q]);
        double t = (theta >= 0 ? 1 : -1) / (Math.abs(theta) + Math.sqrt(theta * theta + 1));
        double c = 1 / Math.sqrt(t * t + 1);
        double s = t * c;
        for (int k = 0; k < a.length; k++) {
            double kp = a[k][p];
            double kq = a[k][q];
            a[k][p] = c * kp - s * kq;
            a[k][q] = s * kp + c * kq;
        }
        for (int k = 0; k < a.length; k++) {
            double pk = a[p][k];
            double qk = a[q][k];
            a[p][k] = c * pk - s * qk;
            a[q][k] = s * pk + c * qk;
        }
    }

    public int size(int m, int sign) {
        return sectorOutside(m, sign) ? OUTSIDE : sector(m, sign).orbits.size();
    }

    public int head(int m, int sign, int i) {
        if (sectorOutside(m, sign)) {
            return OUTSIDE;
        }
        List<List<Integer>> orbits = sector(m, sign).orbits;
        return i < 0 || i >= orbits.size() ? UNKNOWN : orbits.get(i).get(0);
    }

    public long entry(int m, int sign, int i, int j) {
        if (sectorOutside(m, sign)) {
            return LOST;
        }
        Sector s = sector(m, sign);
        int size = s.orbits.size();
        return i < 0 || i >= size || j < 0 || j >= size || size > 10 ? LOST : s.table[i][j].longValueExact();
    }

    public long poly(int m, int sign, int k) {
        if (sectorOutside(m, sign)) {
            return LOST;
        }
        Sector s = sector(m, sign);
        return s.orbits.size() > 10 || k < 0 || k > s.orbits.size() ? LOST : s.poly[k].longValueExact();
    }

    public int above(int m, int sign, int c) {
        if (sectorOutside(m, sign) || Math.abs((long) c) > 50) {
            return OUTSIDE;
        }
        Sector s = sector(m, sign);
        if (s.orbits.size() > 10) {
            return SPENT;
        }
        int found = 0;
        for (double own : s.own) {
            found += own > c + 1e-7 ? 1 : 0;
        }
        return found;
    }

    /** How often x - c divides ITS POLYNOMIAL. */
    private static int oftenIn(Sector s, int c) {
        BigInteger[] p = s.poly;
        int found = 0;
        while (p.length > 1) {
            BigInteger[] q = new BigInteger[p.length - 1];
            BigInteger carry = BigInteger.ZERO;
            for (int k = p.length - 1; k >= 0; k--) {
                carry = carry.multiply(BigInteger.valueOf(c)).add(p[k]);
                if (k > 0) {
                    q[k - 1] = carry;
                }
            }
            if (carry.signum() != 0) {
                return found;
            }
            p = q;
            found++;
        }
        return found;
    }

    public int often(int m, int sign, int c) {
        if (sectorOutside(m, sign) || Math.abs((long) c) > 50) {
            return OUTSIDE;
        }
        Sector s = sector(m, sign);
        return s.orbits.size() > 10 ? SPENT : oftenIn(s, c);
    }

    public int whole(int m, int sign) {
        if (sectorOutside(m, sign)) {
            return OUTSIDE;
        }
        Sector s = sector(m, sign);
        if (s.orbits.size() > 10) {
            return SPENT;
        }
        int found = 0;
        for (double own : s.own) {
            found += Math.abs(own - Math.rint(own)) < 1e-7 ? 1 : 0;
        }
        return found;
    }

    public long power(int m, int sign, int times) {
        if (sectorOutside(m, sign) || times < 1 || times > 4) {
            return LOST;
        }
        Sector s = sector(m, sign);
        if (s.orbits.size() > 10) {
            return LOST;
        }
        BigInteger[][] product = s.table;
        for (int i = 1; i < times; i++) {
            product = times(product, s.table);
        }
        BigInteger sum = BigInteger.ZERO;
        for (int i = 0; i < product.length; i++) {
            sum = sum.add(product[i][i]);
        }
        return sum.longValueExact();
    }

    public long powerOf(int m, int times) {
        if (m < 0 || m > n || times < 1 || times > 4) {
            return LOST;
        }
        long sum = 0;
        for (int s = 0; s < 1 << n; s++) {
            if (Integer.bitCount(s) != m) {
                continue;
            }
            Map<Integer, Long> now = new TreeMap<>();
            now.put(s, 1L);
            for (int i = 0; i < times; i++) {
                Map<Integer, Long> next = new TreeMap<>();
                for (Map.Entry<Integer, Long> one : now.entrySet()) {
                    for (Map.Entry<Integer, Long> two : h(one.getKey()).entrySet()) {
                        next.merge(two.getKey(), one.getValue() * two.getValue(), Long::sum);
                    }
                }
                now = next;
            }
            sum += now.getOrDefault(s, 0L);
        }
        return sum;
    }

    /** REST at c, or null. */
    private BigInteger[] restRow(int m, int sign, int c) {
        if (sectorOutside(m, sign) || Math.abs((long) c) > 50) {
            return null;
        }
        Sector s = sector(m, sign);
        if (s.orbits.size() > 10 || oftenIn(s, c) != 1) {
            return null;
        }
        BigInteger[] row = s.rests.get(c);
        if (row == null) {
            row = nullRow(s.table, c);
            s.rests.put(c, row);
        }
        for (BigInteger share : row) {
            if (share.abs().compareTo(MILLION) > 0) {
                return null;
            }
        }
        return row;
    }

    /** The one row that the table less c takes to 0, by elimination without fractions. */
    private static BigInteger[] nullRow(BigInteger[][] table, int c) {
        int size = table.length;
        BigInteger[][] a = new BigInteger[size][];
        for (int i = 0; i < size; i++) {
            a[i] = table[i].clone();
            a[i][i] = a[i][i].subtract(BigInteger.valueOf(c));
        }
        int[] pivotRow = new int[size];
        Arrays.fill(pivotRow, -1);
        int rank = 0;
        int free = -1;
        for (int col = 0; col < size; col++) {
            int pivot = rank;
            while (pivot < size && a[pivot][col].signum() == 0) {
                pivot++;
            }
            if (pivot == size) {
                free = col;
                continue;
            }
            BigInteger[] kept = a[pivot];
            a[pivot] = a[rank];
            a[rank] = kept;
            for (int i = 0; i < size; i++) {
                if (i != rank && a[i][col].signum() != 0) {
                    BigInteger factor = a[i][col];
                    for (int j = 0; j < size; j++) {
                        a[i][j] = a[i][j].multiply(a[rank][col]).subtract(factor.multiply(a[rank][j]));
                    }
                }
            }
            pivotRow[col] = rank;
            rank++;
        }
        if (rank != size - 1) {
            throw new IllegalStateException("rank " + rank + " of " + size);
        }
        BigInteger all = BigInteger.ONE;
        for (int col = 0; col < size; col++) {
            if (col != free) {
                all = all.multiply(a[pivotRow[col]][col]);
            }
        }
        BigInteger[] row = new BigInteger[size];
        BigInteger common = BigInteger.ZERO;
        for (int col = 0; col < size; col++) {
            row[col] = col == free ? all
                : a[pivotRow[col]][free].negate().multiply(all).divide(a[pivotRow[col]][col]);
            common = common.gcd(row[col]);
        }
        int first = 0;
        while (row[first].signum() == 0) {
            first++;
        }
        BigInteger by = row[first].signum() > 0 ? common : common.negate();
        for (int i = 0; i < size; i++) {
            row[i] = row[i].divide(by);
        }
        return row;
    }

    public long rest(int m, int sign, int c, int i) {
        BigInteger[] row = restRow(m, sign, c);
        return row == null || i < 0 || i >= row.length ? LOST : row[i].longValueExact();
    }

    public long seen(int m, int sign, int c, int i, int j, int which) {
        BigInteger[] row = restRow(m, sign, c);
        if (row == null || i < 0 || i >= n || j < 0 || j >= n || which < 0 || which > 1) {
            return LOST;
        }
        BigInteger upper = BigInteger.ZERO;
        BigInteger lower = BigInteger.ZERO;
        Sector s = sector(m, sign);
        for (int k = 0; k < row.length; k++) {
            BigInteger square = row[k].multiply(row[k]);
            for (int state : s.orbits.get(k)) {
                boolean alike = (state >> i) % 2 == (state >> j) % 2;
                upper = alike ? upper.add(square) : upper.subtract(square);
                lower = lower.add(square);
            }
        }
        BigInteger common = upper.gcd(lower);
        return (which == 0 ? upper : lower).divide(common).longValueExact();
    }

    // ---- 2 ice

    private static boolean nine(int v) {
        return v >= -9 && v <= 9;
    }

    public int weights(int kind, int a, int b, int c) {
        if (kind < 0 || kind > 2 || !nine(a) || !nine(b) || !nine(c)) {
            return OUTSIDE;
        }
        if (weightRows.size() == 6) {
            return FULL;
        }
        weightRows.add(new int[] {kind, a, b, c});
        return weightRows.size() - 1;
    }

    public int weightsOf(int kind, int sheet, int lane, int i) {
        faultNow = 0;
        if (sheet < 0 || sheet > 3) {
            return UNKNOWN;
        }
        if (lane < 0 || lane > 2 || kind < 0 || kind > 2) {
            return OUTSIDE;
        }
        int[] found = new int[3];
        for (int k = 0; k < 3; k++) {
            try {
                found[k] = read(sheets[sheet], Math.addExact(i, k), lane);
            } catch (RuntimeException fault) {
                return faulted(fault);
            }
        }
        return weights(kind, found[0], found[1], found[2]);
    }

    private static int read(Object row, int i, int lane) {
        switch (lane) {
            case 0: return ((byte[]) row)[i];
            case 1: return ((short[]) row)[i];
            default: return ((int[]) row)[i];
        }
    }

    private int faulted(RuntimeException fault) {
        if (fault instanceof NullPointerException) {
            faultNow = 1;
        } else if (fault instanceof ClassCastException || fault instanceof ArrayStoreException) {
            faultNow = 2;
        } else if (fault instanceof IndexOutOfBoundsException || fault instanceof ArithmeticException) {
            faultNow = 3;
        } else if (fault instanceof NegativeArraySizeException) {
            faultNow = 4;
        }
        return -10 - faultNow;
    }

    private boolean noWeights(int k) {
        return k < 0 || k >= weightRows.size();
    }

    /** a, b, c as they count. */
    private int[] counted(int k) {
        int[] row = weightRows.get(k);
        switch (row[0]) {
            case 0: return new int[] {row[1], row[2], row[3]};
            case 1: return new int[] {row[2], row[1], row[3]};
            default: return new int[] {row[2], row[1], 0 - row[3]};
        }
    }

    private static long crossing(int[] abc, int l, int u, int r, int o) {
        if (l == u && u == r && r == o) {
            return abc[0];
        }
        if (l == r && u == o && l != u) {
            return abc[1];
        }
        if (l == o && u == r && l != u) {
            return abc[2];
        }
        return 0;
    }

    public long weight(int k, int what) {
        if (noWeights(k) || what < 0 || what > 3) {
            return LOST;
        }
        return what == 3 ? weightRows.get(k)[0] : counted(k)[what];
    }

    private static long rowEntryOf(int[] abc, int places, int s, int t) {
        long sum = 0;
        for (int edges = 0; edges < 1 << places; edges++) {
            long product = 1;
            for (int i = 0; i < places; i++) {
                int l = edges >> i & 1;
                int r = edges >> (i + 1 == places ? 0 : i + 1) & 1;
                product *= crossing(abc, l, s >> i & 1, r, t >> i & 1);
            }
            sum += product;
        }
        return sum;
    }

    private static long[][] rowTable(int[] abc, int places) {
        int states = 1 << places;
        long[][] table = new long[states][states];
        for (int s = 0; s < states; s++) {
            for (int t = 0; t < states; t++) {
                table[s][t] = rowEntryOf(abc, places, s, t);
            }
        }
        return table;
    }

    public long rowEntry(int k, int places, int s, int t) {
        if (noWeights(k) || places < 2 || places > 6 || !stateOf(s, places) || !stateOf(t, places)) {
            return LOST;
        }
        return rowEntryOf(counted(k), places, s, t);
    }

    public int unlike(int k, int l, int places) {
        if (noWeights(k) || noWeights(l)) {
            return UNKNOWN;
        }
        if (places < 2 || places > 6) {
            return OUTSIDE;
        }
        long[][] one = rowTable(counted(k), places);
        long[][] other = rowTable(counted(l), places);
        int found = 0;
        for (int i = 0; i < one.length; i++) {
            for (int j = 0; j < one.length; j++) {
                BigInteger first = BigInteger.ZERO;
                BigInteger second = BigInteger.ZERO;
                for (int x = 0; x < one.length; x++) {
                    if (one[i][x] != 0 && other[x][j] != 0) {
                        first = first.add(BigInteger.valueOf(one[i][x]).multiply(BigInteger.valueOf(other[x][j])));
                    }
                    if (other[i][x] != 0 && one[x][j] != 0) {
                        second = second.add(BigInteger.valueOf(other[i][x]).multiply(BigInteger.valueOf(one[x][j])));
                    }
                }
                found += first.equals(second) ? 0 : 1;
            }
        }
        return found;
    }

    public int ice(int k, int places, int m) {
        if (noWeights(k)) {
            return UNKNOWN;
        }
        if (places < 2 || places > 6 || m < 1 || m > 8) {
            return OUTSIDE;
        }
        long[][] table = rowTable(counted(k), places);
        long[][] product = table;
        for (int i = 1; i < m; i++) {
            long[][] next = new long[table.length][table.length];
            for (int s = 0; s < table.length; s++) {
                for (int x = 0; x < table.length; x++) {
                    for (int t = 0; t < table.length && product[s][x] != 0; t++) {
                        next[s][t] = (next[s][t] + product[s][x] % PRIME * table[x][t]) % PRIME;
                    }
                }
            }
            product = next;
        }
        long sum = 0;
        for (int s = 0; s < table.length; s++) {
            sum += product[s][s];
        }
        return (int) Math.floorMod(sum, PRIME);
    }

    public int walls(int k, int size) {
        if (noWeights(k)) {
            return UNKNOWN;
        }
        if (size < 1 || size > 6) {
            return OUTSIDE;
        }
        int[] beneath = new int[size];
        BigInteger all = wallsFrom(counted(k), size, 0, 1, beneath);
        return all.mod(BigInteger.valueOf(PRIME)).intValueExact();
    }

    /** All bits on the edges from a CROSSING on, row for row from beneath, each row from the left. */
    private static BigInteger wallsFrom(int[] abc, int size, int at, int left, int[] beneath) {
        if (at == size * size) {
            return BigInteger.ONE;
        }
        int column = at % size;
        int u = beneath[column];
        BigInteger sum = BigInteger.ZERO;
        for (int bits = 0; bits < 4; bits++) {
            int r = bits & 1;
            int o = bits >> 1;
            if (column == size - 1 && r != 0 || at >= size * (size - 1) && o != 1) {
                continue;
            }
            long weight = crossing(abc, left, u, r, o);
            if (weight != 0) {
                beneath[column] = o;
                int nextLeft = column == size - 1 ? 1 : r;
                sum = sum.add(wallsFrom(abc, size, at + 1, nextLeft, beneath).multiply(BigInteger.valueOf(weight)));
                beneath[column] = u;
            }
        }
        return sum;
    }

    private static long[][] onThree(int[] abc, int p, int q) {
        long[][] table = new long[8][8];
        for (int from = 0; from < 8; from++) {
            for (int to = 0; to < 8; to++) {
                int third = 3 - p - q;
                if ((from >> third & 1) == (to >> third & 1)) {
                    table[from][to] = crossing(abc, from >> p & 1, from >> q & 1, to >> p & 1, to >> q & 1);
                }
            }
        }
        return table;
    }

    private static long[][] then(long[][] a, long[][] b) {
        long[][] out = new long[8][8];
        for (int i = 0; i < 8; i++) {
            for (int j = 0; j < 8; j++) {
                for (int x = 0; x < 8; x++) {
                    out[i][j] += a[i][x] * b[x][j];
                }
            }
        }
        return out;
    }

    public int exchange(int k, int l, int m) {
        if (noWeights(k) || noWeights(l) || noWeights(m)) {
            return UNKNOWN;
        }
        long[][] one = onThree(counted(k), 0, 1);
        long[][] two = onThree(counted(l), 0, 2);
        long[][] three = onThree(counted(m), 1, 2);
        long[][] here = then(then(one, two), three);
        long[][] there = then(then(three, two), one);
        int found = 0;
        for (int i = 0; i < 64; i++) {
            found += here[i / 8][i % 8] == there[i / 8][i % 8] ? 0 : 1;
        }
        return found;
    }

    // ---- 3 words

    private static boolean four(int k) {
        return k >= 0 && k <= 3;
    }

    private static void addTo(TreeMap<Integer, BigInteger[]> sum, int key, BigInteger re, BigInteger im) {
        BigInteger[] old = sum.getOrDefault(key, new BigInteger[] {BigInteger.ZERO, BigInteger.ZERO});
        BigInteger[] now = {old[0].add(re), old[1].add(im)};
        if (now[0].signum() == 0 && now[1].signum() == 0) {
            sum.remove(key);
        } else {
            sum.put(key, now);
        }
    }

    private static boolean spent(TreeMap<Integer, BigInteger[]> sum) {
        if (sum.size() > 60) {
            return true;
        }
        for (BigInteger[] number : sum.values()) {
            if (number[0].abs().compareTo(MILLION) > 0 || number[1].abs().compareTo(MILLION) > 0) {
                return true;
            }
        }
        return false;
    }

    private int become(int k, TreeMap<Integer, BigInteger[]> sum) {
        if (spent(sum)) {
            return SPENT;
        }
        remember();
        sums.set(k, sum);
        return sum.size();
    }

    public int add(int k, int x, int z, int re, int im) {
        if (!four(k)) {
            return UNKNOWN;
        }
        if (x < 0 || x > 255 || z < 0 || z > 255) {
            return OUTSIDE;
        }
        TreeMap<Integer, BigInteger[]> next = new TreeMap<>(sums.get(k));
        addTo(next, x * 256 + z, BigInteger.valueOf(re), BigInteger.valueOf(im));
        return become(k, next);
    }

    public int clear(int k) {
        if (!four(k)) {
            return UNKNOWN;
        }
        int had = sums.get(k).size();
        become(k, new TreeMap<>());
        return had;
    }

    private TreeMap<Integer, BigInteger[]> chainSum() {
        TreeMap<Integer, BigInteger[]> out = new TreeMap<>();
        for (int[] pair : pairList()) {
            int bits = (1 << pair[0]) + (1 << pair[1]);
            addTo(out, bits * 256, BigInteger.valueOf(e), BigInteger.ZERO);
            addTo(out, bits * 256 + bits, BigInteger.valueOf(e), BigInteger.ZERO);
            addTo(out, bits, BigInteger.valueOf(2 * d), BigInteger.ZERO);
        }
        return out;
    }

    public int asChain(int k) {
        return four(k) ? become(k, chainSum()) : UNKNOWN;
    }

    private static int letter(int key, int place) {
        int x = key / 256 >> place & 1;
        int z = key % 256 >> place & 1;
        return x == 1 ? (z == 1 ? 2 : 1) : (z == 1 ? 3 : 0);
    }

    /** Letter by letter: {key, how many i}. */
    private static int[] wordTimes(int one, int other) {
        int key = 0;
        int quarter = 0;
        for (int place = 0; place < 8; place++) {
            int p = letter(one, place);
            int q = letter(other, place);
            int out;
            if (p == 0 || q == 0) {
                out = p + q;
            } else if (p == q) {
                out = 0;
            } else {
                out = 6 - p - q;
                boolean onward = p == 1 && q == 2 || p == 2 && q == 3 || p == 3 && q == 1;
                quarter += onward ? 1 : 3;
            }
            key += (out == 1 || out == 2 ? 256 << place : 0) + (out == 3 || out == 2 ? 1 << place : 0);
        }
        return new int[] {key, quarter % 4};
    }

    private static TreeMap<Integer, BigInteger[]> product(TreeMap<Integer, BigInteger[]> one,
            TreeMap<Integer, BigInteger[]> other) {
        TreeMap<Integer, BigInteger[]> out = new TreeMap<>();
        for (Map.Entry<Integer, BigInteger[]> p : one.entrySet()) {
            for (Map.Entry<Integer, BigInteger[]> q : other.entrySet()) {
                int[] word = wordTimes(p.getKey(), q.getKey());
                BigInteger[] a = p.getValue();
                BigInteger[] b = q.getValue();
                BigInteger re = a[0].multiply(b[0]).subtract(a[1].multiply(b[1]));
                BigInteger im = a[0].multiply(b[1]).add(a[1].multiply(b[0]));
                for (int i = 0; i < word[1]; i++) {
                    BigInteger turned = im.negate();
                    im = re;
                    re = turned;
                }
                addTo(out, word[0], re, im);
            }
        }
        return out;
    }

    private static TreeMap<Integer, BigInteger[]> plus(TreeMap<Integer, BigInteger[]> one,
            TreeMap<Integer, BigInteger[]> other, int times) {
        TreeMap<Integer, BigInteger[]> out = new TreeMap<>(one);
        BigInteger by = BigInteger.valueOf(times);
        for (Map.Entry<Integer, BigInteger[]> q : other.entrySet()) {
            addTo(out, q.getKey(), q.getValue()[0].multiply(by), q.getValue()[1].multiply(by));
        }
        return out;
    }

    private static TreeMap<Integer, BigInteger[]> bracketOf(TreeMap<Integer, BigInteger[]> one,
            TreeMap<Integer, BigInteger[]> other) {
        return plus(product(one, other), product(other, one), -1);
    }

    public int join(int m, int k, int l, int way) {
        if (!four(m) || !four(k) || !four(l)) {
            return UNKNOWN;
        }
        switch (way) {
            case 0: return become(m, product(sums.get(k), sums.get(l)));
            case 1: return become(m, bracketOf(sums.get(k), sums.get(l)));
            case 2: return become(m, plus(sums.get(k), sums.get(l), 1));
            case 3: return become(m, plus(sums.get(k), sums.get(l), -1));
            default: return OUTSIDE;
        }
    }

    public int shift(int m, int k, int by) {
        if (!four(m) || !four(k)) {
            return UNKNOWN;
        }
        if (by < 0 || by > 7) {
            return OUTSIDE;
        }
        TreeMap<Integer, BigInteger[]> out = new TreeMap<>();
        for (Map.Entry<Integer, BigInteger[]> p : sums.get(k).entrySet()) {
            int key = 0;
            for (int place = 0; place < 8; place++) {
                int letter = letter(p.getKey(), place);
                if (letter != 0 && place >= n) {
                    return STATE;
                }
                int to = (place + by) % n;
                key += (letter == 1 || letter == 2 ? 256 << to : 0) + (letter == 3 || letter == 2 ? 1 << to : 0);
            }
            addTo(out, key, p.getValue()[0], p.getValue()[1]);
        }
        return become(m, out);
    }

    public long word(int k, int i, int what) {
        if (!four(k) || i < 0 || i >= sums.get(k).size() || what < 0 || what > 3) {
            return LOST;
        }
        int key = new ArrayList<>(sums.get(k).keySet()).get(i);
        return what == 0 ? key / 256 : what == 1 ? key % 256 : sums.get(k).get(key)[what - 2].longValueExact();
    }

    public int words(int k) {
        return four(k) ? sums.get(k).size() : UNKNOWN;
    }

    public int bracket(int k, int l) {
        return four(k) && four(l) ? bracketOf(sums.get(k), sums.get(l)).size() : UNKNOWN;
    }

    public int kept(int k) {
        return four(k) ? (bracketOf(sums.get(k), chainSum()).isEmpty() ? 1 : 0) : UNKNOWN;
    }

    // ---- 4 undo, sheets, parts

    private Moment moment() {
        Moment moment = new Moment();
        moment.n = n;
        moment.ring = ring;
        moment.e = e;
        moment.d = d;
        moment.sums = new ArrayList<>(sums);
        return moment;
    }

    private void become(Moment moment) {
        n = moment.n;
        ring = moment.ring;
        e = moment.e;
        d = moment.d;
        sums = new ArrayList<>(moment.sums);
    }

    private void remember() {
        undos.push(moment());
        if (undos.size() > 20) {
            undos.removeLast();
        }
        redos.clear();
    }

    public int undo() {
        if (undos.isEmpty()) {
            return STATE;
        }
        redos.push(moment());
        become(undos.pop());
        return undos.size();
    }

    public int redo() {
        if (redos.isEmpty()) {
            return STATE;
        }
        undos.push(moment());
        become(redos.pop());
        return undos.size();
    }

    public int sheet(int k, int lane, int size) {
        faultNow = 0;
        if (!four(k)) {
            return UNKNOWN;
        }
        if (lane < 0 || lane > 2 || size > 60) {
            return OUTSIDE;
        }
        try {
            sheets[k] = lane == 0 ? new byte[size] : lane == 1 ? new short[size] : new int[size];
        } catch (RuntimeException fault) {
            return faulted(fault);
        }
        return 1;
    }

    public int lose(int k) {
        if (!four(k)) {
            return UNKNOWN;
        }
        int had = sheets[k] == null ? 0 : 1;
        sheets[k] = null;
        return had;
    }

    public int put(int k, int i, int v) {
        faultNow = 0;
        if (!four(k)) {
            return UNKNOWN;
        }
        try {
            if (sheets[k] instanceof byte[]) {
                ((byte[]) sheets[k])[i] = (byte) v;
            } else if (sheets[k] instanceof short[]) {
                ((short[]) sheets[k])[i] = (short) v;
            } else {
                ((int[]) sheets[k])[i] = v;
            }
        } catch (RuntimeException fault) {
            return faulted(fault);
        }
        return 1;
    }

    public long cell(int k, int i, int lane) {
        faultNow = 0;
        if (!four(k) || lane < 0 || lane > 2) {
            return LOST;
        }
        try {
            return read(sheets[k], i, lane);
        } catch (RuntimeException fault) {
            faulted(fault);
            return LOST;
        }
    }

    public int copy(int k, int i, int other, int j, int count) {
        faultNow = 0;
        if (!four(k) || !four(other)) {
            return UNKNOWN;
        }
        try {
            System.arraycopy(sheets[k], i, sheets[other], j, count);
        } catch (RuntimeException fault) {
            return faulted(fault);
        }
        return count;
    }

    private void leave(int number) {
        traceNow = 31 * traceNow + number;
    }

    private int plainTells(int k) {
        leave(1);
        return counted(k)[0];
    }

    private int turnedTells(int k) {
        leave(2);
        return plainTells(k) + 100;
    }

    private int signedTells(int k) {
        leave(3);
        int first = turnedTells(k);
        return first + plainTells(k);
    }

    public int tell(int k) {
        if (noWeights(k)) {
            return UNKNOWN;
        }
        int kind = weightRows.get(k)[0];
        return kind == 0 ? plainTells(k) : kind == 1 ? turnedTells(k) : signedTells(k);
    }

    public int name(int k) {
        if (noWeights(k)) {
            return UNKNOWN;
        }
        boolean signed = weightRows.get(k)[0] == 2;
        leave(signed ? 5 : 4);
        return signed ? 60 : k;
    }

    public int as(int k, int kind) {
        faultNow = 0;
        if (noWeights(k)) {
            return UNKNOWN;
        }
        if (kind < 0 || kind > 2) {
            return OUTSIDE;
        }
        return weightRows.get(k)[0] >= kind ? 1 : faulted(new ClassCastException());
    }

    public int trace() {
        return traceNow;
    }

    public int fault() {
        return faultNow;
    }

    public int many(int what) {
        int[] all = {n, ring ? 1 : 0, e, 100 + d, pairList().size(), weightRows.size(), undos.size(), redos.size()};
        return what < 0 || what >= all.length ? OUTSIDE : all[what];
    }
}
