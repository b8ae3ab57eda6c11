/** Promises 1 to 15: a new object and the chain. */
public final class ChainTest {
    private static final Check CHECK = new Check();
    private static final long LOST = MagnetRows.LOST;
    private static final int[] NOT_SIGNS = {0, 2, -2, Integer.MAX_VALUE, Integer.MIN_VALUE};

    public static void main(String[] args) {
        aNewObject();
        chainBecomes();
        chainRefuses();
        actOnRings();
        actOnOpenOnes();
        turns();
        sizes();
        heads();
        entries();
        polynomials();
        aboves();
        oftens();
        wholes();
        powers();
        powersOfAll();
        rests();
        seens();
        outsideSectors();
        spentSectors();
        chainIsSeenByAll();
        CHECK.end();
    }

    private static void due(String call, long got, long want) {
        CHECK.due(call, got, want);
    }

    private static MagnetRows of(int n, boolean ring, int e, int d) {
        MagnetRows x = new MagnetRows();
        due("chain", x.chain(n, ring, e, d), 1L << n);
        return x;
    }

    private static void aNewObject() {
        MagnetRows x = new MagnetRows();
        int[] many = {6, 1, 2, 101, 6, 0, 0, 0};
        for (int what = 0; what < many.length; what++) {
            due("1 many " + what, x.many(what), many[what]);
        }
        for (int k = 0; k < 4; k++) {
            due("1 words", x.words(k), 0);
            due("1 word", x.word(k, 0, 0), LOST);
            due("1 put", x.put(k, 0, 1), -11);
            due("1 lose", x.lose(k), 0);
        }
        x = new MagnetRows();
        due("1 weight", x.weight(0, 0), LOST);
        due("1 undo", x.undo(), -3);
        due("1 redo", x.redo(), -3);
        due("1 trace", x.trace(), 0);
        due("1 fault", x.fault(), 0);
        due("1 act", x.act(1, 32), 2);
        due("1 act", x.act(0, 0), 6);
    }

    private static void chainBecomes() {
        for (int n = 2; n <= 8; n++) {
            MagnetRows x = new MagnetRows();
            due("2 chain ring", x.chain(n, true, 4, -2), 1L << n);
            due("2 N", x.many(0), n);
            due("2 ring", x.many(1), 1);
            due("2 e", x.many(2), 4);
            due("2 d", x.many(3), 98);
            due("2 pairs", x.many(4), n);
            due("2 acts", x.many(6), 1);
            due("2 chain open", x.chain(n, false, 1, 2), 1L << n);
            due("2 ring", x.many(1), 0);
            due("2 e", x.many(2), 1);
            due("2 d", x.many(3), 102);
            due("2 pairs", x.many(4), n - 1);
            due("2 acts", x.many(6), 2);
        }
    }

    private static void chainRefuses() {
        MagnetRows x = of(3, false, 3, 2);
        String was = Check.state(x);
        int[][] wrong = {{1, 1, 0}, {9, 1, 0}, {0, 1, 0}, {-8, 1, 0}, {Integer.MIN_VALUE, 1, 0}, {4, 0, 0}, {4, 5, 0},
            {4, -1, 0}, {4, 1, -3}, {4, 1, 3}, {4, 1, Integer.MAX_VALUE}};
        for (int[] w : wrong) {
            due("2 chain", x.chain(w[0], true, w[1], w[2]), -2);
        }
        CHECK.same("2 nothing has changed", Check.state(x), was);
    }

    private static void actOnRings() {
        MagnetRows x = of(2, true, 3, 1);
        due("3 the pair twice", x.act(1, 2), 6);
        due("3 the pair twice", x.act(2, 1), 6);
        due("3 at itself", x.act(1, 1), -2);
        due("3 all alike", x.act(0, 0), 2);
        due("3 all alike", x.act(3, 3), 2);
        due("3 alike ones do not change", x.act(0, 3), 0);
        due("3 alike ones do not change", x.act(3, 0), 0);
        due("3 another number of UP", x.act(1, 3), 0);
        x = of(4, true, 3, 2);
        due("3 around", x.act(1, 8), 3);
        due("3 around", x.act(8, 1), 3);
        due("3 no pair", x.act(1, 4), 0);
        due("3 two swaps", x.act(3, 12), 0);
        due("3 half", x.act(1, 1), 0);
        due("3 half", x.act(3, 3), 0);
        due("3 none alike", x.act(5, 5), -8);
        due("3 one of two", x.act(5, 6), 3);
        due("3 outside", x.act(16, 0), LOST);
        due("3 outside", x.act(0, 16), LOST);
        due("3 outside", x.act(-1, 0), LOST);
        due("3 outside", x.act(0, -1), LOST);
        due("3 outside", x.act(Integer.MIN_VALUE, Integer.MAX_VALUE), LOST);
        x = of(3, true, 4, -2);
        due("3 around", x.act(1, 4), 4);
        due("3 at itself", x.act(1, 1), 2);
    }

    private static void actOnOpenOnes() {
        MagnetRows x = of(3, false, 2, 1);
        due("3 neighbours", x.act(1, 2), 2);
        due("3 neighbours", x.act(2, 4), 2);
        due("3 not around", x.act(1, 4), 0);
        due("3 at itself", x.act(3, 3), 0);
        due("3 at itself", x.act(5, 5), -2);
        due("3 at itself", x.act(7, 7), 2);
        x = of(2, false, 3, 1);
        due("3 the pair once", x.act(1, 2), 3);
        due("3 at itself", x.act(1, 1), -1);
    }

    private static void turns() {
        MagnetRows x = of(5, true, 1, 0);
        due("4 next", x.turned(1), 2);
        due("4 last to 0", x.turned(16), 1);
        due("4 all", x.turned(21), 11);
        due("4 outside", x.turned(32), -2);
        due("4 outside", x.turned(-1), -2);
        due("4 outside", x.turned(Integer.MIN_VALUE), -2);
        x = of(4, false, 1, 0);
        due("4 mirrored", x.turned(1), 8);
        due("4 mirrored", x.turned(3), 12);
        due("4 mirrored", x.turned(11), 13);
        due("4 itself", x.turned(6), 6);
        due("4 itself", x.turned(0), 0);
        due("4 outside", x.turned(16), -2);
    }

    private static void sizes() {
        MagnetRows x = of(8, true, 1, 0);
        int[] rings = {1, 1, 4, 7, 10, 7, 4, 1, 1};
        // Only 0 UP and all UP come of themselves by one turn.
        int[] signed = {0, 1, 4, 7, 10, 7, 4, 1, 0};
        for (int m = 0; m <= 8; m++) {
            due("5 size " + m, x.size(m, 1), rings[m]);
            due("5 size - " + m, x.size(m, -1), signed[m]);
        }
        x = of(8, false, 1, 0);
        due("5 spent, told all the same", x.size(4, 1), 38);
        due("5 spent, told all the same", x.size(4, -1), 32);
        due("5 mirrored", x.size(1, 1), 4);
        due("5 mirrored", x.size(1, -1), 4);
        due("5 mirrored", x.size(0, -1), 0);
        x = of(5, true, 1, 0);
        due("5 odd turns", x.size(2, 1), 2);
        due("5 odd turns", x.size(2, -1), 0);
        x = of(6, true, 1, 0);
        due("5 one of three comes of itself by 3", x.size(2, 1), 3);
        due("5 one of three comes of itself by 3", x.size(2, -1), 2);
    }

    private static void heads() {
        MagnetRows x = of(6, true, 1, 0);
        int[] heads = {3, 5, 9};
        for (int i = 0; i < 3; i++) {
            due("6 head", x.head(2, 1, i), heads[i]);
        }
        due("6 head -", x.head(2, -1, 1), 5);
        due("6 beyond", x.head(2, -1, 2), -1);
        due("6 beyond", x.head(2, 1, 3), -1);
        due("6 below", x.head(2, 1, -1), -1);
        due("6 far", x.head(2, 1, Integer.MAX_VALUE), -1);
        due("6 outside first", x.head(7, 1, 9), -2);
        due("6 outside first", x.head(2, 0, 9), -2);
        x = of(8, false, 1, 0);
        due("6 of a spent one", x.head(4, 1, 0), 15);
        due("6 of a spent one", x.head(4, 1, 37), 195);
        due("6 of a spent one", x.head(4, 1, 38), -1);
        due("6 of a spent one", x.head(4, -1, 31), 163);
        due("6 of a spent one", x.head(4, -1, 32), -1);
    }

    private static void entries() {
        MagnetRows x = of(2, true, 3, 1);
        due("7 one", x.entry(1, 1, 0, 0), 4);
        due("7 one -", x.entry(1, -1, 0, 0), -8);
        x = of(3, false, 2, 1);
        due("7 entry", x.entry(1, 1, 0, 0), 0);
        due("7 entry", x.entry(1, 1, 0, 1), 2);
        due("7 entry", x.entry(1, 1, 1, 0), 4);
        due("7 entry", x.entry(1, 1, 1, 1), -2);
        due("7 entry -", x.entry(1, -1, 0, 0), 0);
        due("7 beyond", x.entry(1, 1, 2, 0), LOST);
        due("7 beyond", x.entry(1, 1, 0, 2), LOST);
        due("7 below", x.entry(1, 1, -1, 0), LOST);
        due("7 below", x.entry(1, 1, 0, -1), LOST);
        due("7 beyond", x.entry(1, -1, 0, 1), LOST);
        x = of(6, true, 2, 1);
        due("7 signs", x.entry(3, -1, 0, 2), -2);
        due("7 signs", x.entry(3, -1, 1, 2), 4);
    }

    private static void polynomials() {
        MagnetRows x = of(3, false, 2, 1);
        due("8 poly", x.poly(1, 1, 0), -8);
        due("8 poly", x.poly(1, 1, 1), 2);
        due("8 poly", x.poly(1, 1, 2), 1);
        due("8 beyond", x.poly(1, 1, 3), LOST);
        due("8 below", x.poly(1, 1, -1), LOST);
        x = of(7, true, 4, -1);
        long[] seven = {6615, 3717, 102, -182, -13, 1};
        for (int k = 0; k < seven.length; k++) {
            due("8 of 5 orbits", x.poly(3, 1, k), seven[k]);
        }
        due("8 of none", x.poly(3, -1, 0), 1);
        due("8 of none", x.poly(3, -1, 1), LOST);
        x = of(8, true, 2, 1);
        due("8 of 10 orbits", x.poly(4, 1, 2), -131072);
        due("8 of 10 orbits", x.poly(4, 1, 10), 1);
        due("8 of 10 orbits", x.poly(4, 1, 11), LOST);
    }

    private static void aboves() {
        MagnetRows x = of(3, false, 2, 1);
        int[][] numbers = {{-50, 2}, {-5, 2}, {-4, 1}, {-3, 1}, {1, 1}, {2, 0}, {3, 0}, {50, 0}, {51, -2}, {-51, -2}};
        for (int[] one : numbers) {
            due("9 above " + one[0], x.above(1, 1, one[0]), one[1]);
        }
        due("9 far", x.above(1, 1, Integer.MIN_VALUE), -2);
        x = of(8, true, 2, 1);
        due("9 above, 0 twice", x.above(4, 1, 0), 3);
        due("9 above, 0 twice", x.above(4, 1, -1), 5);
        due("9 of all", x.above(4, 1, -50), 10);
        x = of(5, true, 2, 1);
        due("9 of none", x.above(2, -1, 0), 0);
    }

    private static void oftens() {
        MagnetRows x = of(3, false, 2, 1);
        int[][] numbers = {{-50, 0}, {-4, 1}, {-3, 0}, {2, 1}, {50, 0}, {51, -2}, {-51, -2}};
        for (int[] one : numbers) {
            due("10 often " + one[0], x.often(1, 1, one[0]), one[1]);
        }
        x = of(8, true, 2, 1);
        due("10 twice", x.often(4, 1, 0), 2);
        due("10 once", x.often(4, 1, -4), 1);
        x = of(5, true, 2, 1);
        due("10 of none", x.often(2, -1, 0), 0);
    }

    private static void wholes() {
        due("11 all", of(3, false, 2, 1).whole(1, 1), 2);
        due("11 each as often as it is one", of(8, true, 2, 1).whole(4, 1), 4);
        due("11 all", of(7, true, 4, -1).whole(3, 1), 5);
        due("11 some", of(6, true, 2, 1).whole(3, 1), 2);
        due("11 some", of(6, true, 2, 1).whole(3, -1), 2);
        due("11 of none", of(5, true, 2, 1).whole(2, -1), 0);
        MagnetRows x = of(4, false, 1, 0);
        // x x - x - 1: neither root is whole.
        due("11 poly", x.poly(1, 1, 0), -1);
        due("11 poly", x.poly(1, 1, 1), -1);
        due("11 none of them", x.whole(1, 1), 0);
    }

    private static void powers() {
        MagnetRows x = of(3, false, 2, 1);
        long[] sums = {-2, 20, -56, 272};
        for (int n = 1; n <= 4; n++) {
            due("12 power " + n, x.power(1, 1, n), sums[n - 1]);
        }
        due("12 outside", x.power(1, 1, 0), LOST);
        due("12 outside", x.power(1, 1, 5), LOST);
        due("12 outside", x.power(1, 1, -1), LOST);
        due("12 of one", x.power(0, 1, 3), 8);
        due("12 of none", x.power(0, -1, 3), 0);
    }

    private static void powersOfAll() {
        MagnetRows x = of(2, true, 3, 1);
        // The own numbers are 4 and -8.
        long[] sums = {-4, 80, -448, 4352};
        for (int n = 1; n <= 4; n++) {
            due("13 power " + n, x.powerOf(1, n), sums[n - 1]);
            due("13 all alike " + n, x.powerOf(0, n), 1L << n);
        }
        due("13 outside", x.powerOf(1, 0), LOST);
        due("13 outside", x.powerOf(1, 5), LOST);
        due("13 outside", x.powerOf(-1, 1), LOST);
        due("13 outside", x.powerOf(3, 1), LOST);
        x = of(3, false, 2, 1);
        // 2, -4 and the odd one's 0.
        due("13 open", x.powerOf(1, 2), 20);
        due("13 open", x.powerOf(1, 3), -56);
        x = of(8, false, 1, 1);
        due("13 it is never spent", x.powerOf(4, 1), -70);
    }

    private static void rests() {
        MagnetRows x = of(3, false, 2, 1);
        due("14 rest", x.rest(1, 1, 2, 0), 1);
        due("14 rest", x.rest(1, 1, 2, 1), 1);
        due("14 rest", x.rest(1, 1, -4, 0), 1);
        due("14 rest", x.rest(1, 1, -4, 1), -2);
        due("14 unknown", x.rest(1, 1, -4, 2), LOST);
        due("14 unknown", x.rest(1, 1, -4, -1), LOST);
        due("14 no own number", x.rest(1, 1, 1, 0), LOST);
        due("14 outside", x.rest(1, 1, 51, 0), LOST);
        due("14 outside", x.rest(1, 1, -51, 0), LOST);
        due("14 of one", x.rest(0, 1, 2, 0), 1);
        due("14 of none", x.rest(0, -1, 2, 0), LOST);
        x = of(8, true, 2, 1);
        due("14 twice", x.rest(4, 1, 0, 0), LOST);
        due("14 once", x.rest(4, 1, 8, 9), 1);
        x = of(5, true, 4, -1);
        due("14 the first above 0", x.rest(2, 1, -5, 0), 2);
        due("14 the first above 0", x.rest(2, 1, -5, 1), -1);
        x = of(6, true, 2, 1);
        due("14 the first that is not 0", x.rest(3, 1, -6, 0), 0);
        due("14 the first that is not 0", x.rest(3, 1, -6, 1), 1);
    }

    private static void seens() {
        MagnetRows x = of(3, false, 2, 1);
        due("15 upper", x.seen(1, 1, -4, 0, 1, 0), -2);
        due("15 lower", x.seen(1, 1, -4, 0, 1, 1), 3);
        due("15 upper", x.seen(1, 1, -4, 0, 2, 0), 1);
        due("15 lower", x.seen(1, 1, -4, 2, 0, 1), 3);
        due("15 itself", x.seen(1, 1, -4, 1, 1, 0), 1);
        due("15 itself", x.seen(1, 1, -4, 1, 1, 1), 1);
        due("15 no own number", x.seen(1, 1, 1, 0, 1, 0), LOST);
        due("15 a place", x.seen(1, 1, -4, 3, 1, 0), LOST);
        due("15 a place", x.seen(1, 1, -4, 1, 3, 0), LOST);
        due("15 a place", x.seen(1, 1, -4, -1, 1, 0), LOST);
        due("15 a place", x.seen(1, 1, -4, 1, -1, 0), LOST);
        due("15 which", x.seen(1, 1, -4, 1, 1, 2), LOST);
        due("15 which", x.seen(1, 1, -4, 1, 1, -1), LOST);
        due("15 outside", x.seen(1, 1, 51, 1, 1, 0), LOST);
        x = of(4, true, 1, -2);
        due("15 nothing left: upper", x.seen(1, -1, -2, 0, 1, 0), 0);
        due("15 nothing left: lower", x.seen(1, -1, -2, 0, 1, 1), 1);
        x = of(2, true, 3, 1);
        due("15 signs", x.seen(1, -1, -8, 0, 1, 0), -1);
        due("15 signs", x.seen(1, -1, -8, 0, 1, 1), 1);
        x = of(7, true, 4, -1);
        due("15 in least terms", x.seen(3, 1, -7, 0, 2, 0), -11);
        due("15 in least terms", x.seen(3, 1, -7, 0, 2, 1), 49);
    }

    private static void outsideSectors() {
        MagnetRows x = of(4, true, 2, 1);
        for (int m = 0; m <= 5; m += 5) {
            for (int sign : NOT_SIGNS) {
                outsideSector(x, m == 0 ? 2 : m, m == 0 ? sign : 1);
            }
        }
        outsideSector(x, -1, 1);
        outsideSector(x, Integer.MAX_VALUE, -1);
        outsideSector(x, Integer.MIN_VALUE, -1);
    }

    private static void outsideSector(MagnetRows x, int m, int sign) {
        String where = " " + m + " " + sign;
        due("5 outside" + where, x.size(m, sign), -2);
        due("6 outside" + where, x.head(m, sign, 0), -2);
        due("7 outside" + where, x.entry(m, sign, 0, 0), LOST);
        due("8 outside" + where, x.poly(m, sign, 0), LOST);
        due("9 outside" + where, x.above(m, sign, 0), -2);
        due("10 outside" + where, x.often(m, sign, 0), -2);
        due("11 outside" + where, x.whole(m, sign), -2);
        due("12 outside" + where, x.power(m, sign, 1), LOST);
        due("14 outside" + where, x.rest(m, sign, 0, 0), LOST);
        due("15 outside" + where, x.seen(m, sign, 0, 0, 1, 0), LOST);
    }

    private static void spentSectors() {
        MagnetRows x = of(8, false, 2, 1);
        due("7 spent", x.entry(4, 1, 0, 0), LOST);
        due("8 spent", x.poly(4, 1, 0), LOST);
        due("9 spent", x.above(4, 1, 0), -6);
        due("9 outside first", x.above(4, 1, 51), -2);
        due("10 spent", x.often(4, 1, 0), -6);
        due("10 outside first", x.often(4, 1, -51), -2);
        due("11 spent", x.whole(4, 1), -6);
        due("12 spent", x.power(4, 1, 1), LOST);
        due("14 spent", x.rest(4, 1, 0, 0), LOST);
        due("15 spent", x.seen(4, 1, 0, 0, 1, 0), LOST);
        x = of(7, false, 2, 1);
        due("9 12 orbits are spent", x.above(2, 1, 0), -6);
        due("9 9 orbits are not", x.above(2, -1, -50), 9);
        x = of(6, false, 2, 1);
        due("9 10 orbits are not", x.above(3, 1, -50), 10);
    }

    /** What was worked out for one chain does not stay for another. */
    private static void chainIsSeenByAll() {
        MagnetRows x = of(2, true, 3, 1);
        due("7 one", x.entry(1, 1, 0, 0), 4);
        due("14 one", x.rest(1, 1, 4, 0), 1);
        due("2 chain", x.chain(2, true, 4, 1), 4);
        due("7 another", x.entry(1, 1, 0, 0), 6);
        due("14 another", x.rest(1, 1, 4, 0), LOST);
        due("33 undo", x.undo(), 1);
        due("7 one again", x.entry(1, 1, 0, 0), 4);
        due("14 one again", x.rest(1, 1, 4, 0), 1);
        due("34 redo", x.redo(), 2);
        due("10 another again", x.often(1, 1, 6), 1);
    }
}
