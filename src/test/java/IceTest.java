/** Promises 16 to 23: six weights of ice. */
public final class IceTest {
    private static final Check CHECK = new Check();
    private static final long LOST = MagnetRows.LOST;

    public static void main(String[] args) {
        weightsCome();
        weightsAreRefused();
        weightsOfSheets();
        weightsOfSheetsInOrder();
        weightsCount();
        rowEntries();
        rowEntriesRefused();
        commuting();
        iceOnRings();
        wallsAround();
        exchanging();
        CHECK.end();
    }

    private static void due(String call, long got, long want) {
        CHECK.due(call, got, want);
    }

    private static void weightsCome() {
        MagnetRows x = new MagnetRows();
        for (int k = 0; k < 6; k++) {
            due("16 weights", x.weights(k % 3, -9, 9, k), k);
            due("16 how many", x.many(5), k + 1);
        }
        due("16 full", x.weights(0, 0, 0, 0), -4);
        due("16 outside ahead of full", x.weights(3, 0, 0, 0), -2);
        due("16 outside ahead of full", x.weights(0, 0, 0, 10), -2);
        due("16 how many", x.many(5), 6);
        due("16 nothing to undo", x.many(6), 0);
    }

    private static void weightsAreRefused() {
        MagnetRows x = new MagnetRows();
        int[][] wrong = {{-1, 0, 0, 0}, {3, 0, 0, 0}, {0, 10, 0, 0}, {0, -10, 0, 0}, {1, 0, 10, 0}, {1, 0, -10, 0},
            {2, 0, 0, 10}, {2, 0, 0, -10}, {Integer.MIN_VALUE, 0, 0, 0}, {0, Integer.MAX_VALUE, 0, 0}};
        for (int[] w : wrong) {
            due("16 outside", x.weights(w[0], w[1], w[2], w[3]), -2);
        }
        due("16 none came", x.many(5), 0);
        due("16 the edges", x.weights(0, -9, -9, -9), 0);
        due("16 the edges", x.weights(0, 9, 9, 9), 1);
    }

    private static void weightsOfSheets() {
        MagnetRows x = new MagnetRows();
        for (int lane = 0; lane < 3; lane++) {
            x.sheet(lane, lane, 5);
            for (int i = 0; i < 5; i++) {
                x.put(lane, i, 3 * lane - i);
            }
        }
        due("17 bytes", x.weightsOf(0, 0, 0, 0), 0);
        due("17 shorts", x.weightsOf(1, 1, 1, 1), 1);
        due("17 ints", x.weightsOf(2, 2, 2, 2), 2);
        due("17 fault", x.fault(), 0);
        long[][] want = {{0, -1, -2, 0}, {1, 2, 0, 1}, {3, 4, -2, 2}};
        for (int k = 0; k < 3; k++) {
            for (int what = 0; what < 4; what++) {
                due("17 weight " + k + " " + what, x.weight(k, what), want[k][what]);
            }
        }
        due("17 unlike sheets stay", x.cell(2, 2, 2), 4);
    }

    private static void weightsOfSheetsInOrder() {
        MagnetRows x = new MagnetRows();
        x.sheet(1, 1, 4);
        x.put(1, 0, 10);
        faulty(x, "unknown", x.weightsOf(9, 4, 9, 9), -1, 0);
        faulty(x, "unknown", x.weightsOf(0, -1, 0, 0), -1, 0);
        faulty(x, "lane", x.weightsOf(0, 0, 3, 9), -2, 0);
        faulty(x, "lane", x.weightsOf(0, 0, -1, 9), -2, 0);
        faulty(x, "kind ahead of null", x.weightsOf(3, 0, 0, 9), -2, 0);
        faulty(x, "kind", x.weightsOf(-1, 1, 1, 1), -2, 0);
        faulty(x, "nothing is no cast", x.weightsOf(0, 0, 0, 9), -11, 1);
        faulty(x, "cast ahead of index", x.weightsOf(0, 1, 0, 9), -12, 2);
        faulty(x, "cast", x.weightsOf(0, 1, 2, 1), -12, 2);
        faulty(x, "index", x.weightsOf(0, 1, 1, 2), -13, 3);
        faulty(x, "index", x.weightsOf(0, 1, 1, 4), -13, 3);
        faulty(x, "index", x.weightsOf(0, 1, 1, -1), -13, 3);
        faulty(x, "index", x.weightsOf(0, 1, 1, Integer.MAX_VALUE), -13, 3);
        faulty(x, "index", x.weightsOf(0, 1, 1, Integer.MIN_VALUE), -13, 3);
        faulty(x, "a is outside", x.weightsOf(0, 1, 1, 0), -2, 0);
        x.put(1, 2, -10);
        faulty(x, "b is outside", x.weightsOf(0, 1, 1, 1), -2, 0);
        x.put(1, 2, 0);
        x.put(1, 3, 10);
        faulty(x, "c is outside", x.weightsOf(0, 1, 1, 1), -2, 0);
        due("17 none came", x.many(5), 0);
        x.put(1, 3, 9);
        for (int k = 0; k < 6; k++) {
            faulty(x, "taken", x.weightsOf(0, 1, 1, 1), k, 0);
        }
        faulty(x, "full", x.weightsOf(0, 1, 1, 1), -4, 0);
        faulty(x, "outside ahead of full", x.weightsOf(0, 1, 1, 0), -2, 0);
        faulty(x, "index ahead of full", x.weightsOf(0, 1, 1, 3), -13, 3);
    }

    /** Each answer with fault() behind it. */
    private static void faulty(MagnetRows x, String what, long got, long want, int fault) {
        due("17 " + what, got, want);
        due("17 fault of " + what, x.fault(), fault);
        x.put(0, 0, 0);
    }

    private static void weightsCount() {
        MagnetRows x = new MagnetRows();
        long[][] want = {{2, 3, 4, 0}, {3, 2, 4, 1}, {3, 2, -4, 2}};
        for (int kind = 0; kind < 3; kind++) {
            x.weights(kind, 2, 3, 4);
            for (int what = 0; what < 4; what++) {
                due("18 weight", x.weight(kind, what), want[kind][what]);
            }
            due("18 outside", x.weight(kind, 4), LOST);
            due("18 outside", x.weight(kind, -1), LOST);
        }
        due("18 unknown", x.weight(3, 0), LOST);
        due("18 unknown", x.weight(-1, 0), LOST);
        due("18 unknown", x.weight(Integer.MIN_VALUE, 0), LOST);
    }

    private static void rowEntries() {
        MagnetRows x = new MagnetRows();
        x.weights(0, 2, 3, 5);
        x.weights(2, 2, 3, 5);
        for (int n = 2; n <= 6; n++) {
            long all = Math.round(Math.pow(2, n) + Math.pow(3, n));
            due("19 all alike", x.rowEntry(0, n, 0, 0), all);
            due("19 all alike", x.rowEntry(0, n, (1 << n) - 1, (1 << n) - 1), all);
            due("19 all alike", x.rowEntry(1, n, 0, 0), all);
            due("19 not as many up", x.rowEntry(0, n, 0, 1), 0);
        }
        // One up stays: the edges are all 0 or all 1.
        due("19 one stays", x.rowEntry(0, 3, 1, 1), 3 * 2 * 2 + 2 * 3 * 3);
        // It goes on by one: c twice, what is between on the edge 0 way: a, else b.
        due("19 one goes on", x.rowEntry(0, 3, 1, 2), 5 * 5 * 2);
        due("19 one goes on by two", x.rowEntry(0, 3, 1, 4), 5 * 3 * 5);
        due("19 one goes on, signed", x.rowEntry(1, 3, 1, 4), 5 * 2 * 5);
        due("19 around", x.rowEntry(0, 3, 4, 1), 5 * 5 * 2);
        due("19 around", x.rowEntry(0, 3, 2, 1), 5 * 3 * 5);
    }

    private static void rowEntriesRefused() {
        MagnetRows x = new MagnetRows();
        x.weights(0, 2, 3, 5);
        due("19 unknown", x.rowEntry(1, 2, 0, 0), LOST);
        due("19 unknown", x.rowEntry(-1, 2, 0, 0), LOST);
        due("19 outside", x.rowEntry(0, 1, 0, 0), LOST);
        due("19 outside", x.rowEntry(0, 7, 0, 0), LOST);
        due("19 outside", x.rowEntry(0, Integer.MAX_VALUE, 0, 0), LOST);
        due("19 a state", x.rowEntry(0, 2, 4, 0), LOST);
        due("19 a state", x.rowEntry(0, 2, 0, 4), LOST);
        due("19 a state", x.rowEntry(0, 2, -1, 0), LOST);
        due("19 a state", x.rowEntry(0, 2, 0, -1), LOST);
        due("19 the last state", x.rowEntry(0, 6, 63, 63), 64 + 729);
    }

    private static void commuting() {
        MagnetRows x = new MagnetRows();
        x.weights(0, 1, 1, 1);
        x.weights(0, 1, 2, 3);
        // These two have a a and b b less c c by 2 a b alike, so they commute.
        x.weights(0, 2, 1, 1);
        x.weights(0, 4, 3, 1);
        x.weights(2, 3, 4, 1);
        int[] unlike = {0, 0, 16, 100, 456};
        for (int n = 2; n <= 6; n++) {
            due("20 unlike", x.unlike(0, 1, n), unlike[n - 2]);
            due("20 unlike", x.unlike(1, 0, n), unlike[n - 2]);
            due("20 commute", x.unlike(2, 3, n), 0);
            due("20 commute", x.unlike(2, 4, n), 0);
            due("20 itself", x.unlike(1, 1, n), 0);
        }
        due("20 unknown first", x.unlike(5, 0, 9), -1);
        due("20 unknown", x.unlike(0, 5, 2), -1);
        due("20 unknown", x.unlike(0, -1, 2), -1);
        due("20 outside", x.unlike(0, 0, 1), -2);
        due("20 outside", x.unlike(0, 0, 7), -2);
    }

    private static void iceOnRings() {
        MagnetRows x = new MagnetRows();
        x.weights(0, 1, 1, 1);
        x.weights(1, 2, 3, 4);
        x.weights(0, -9, 0, 0);
        x.weights(0, 9, 9, -9);
        due("21 2 by 1", x.ice(0, 2, 1), 8);
        due("21 2 by 2", x.ice(0, 2, 2), 18);
        due("21 6 by 8", x.ice(0, 6, 8), 995602820);
        // 2 times (13 and 12), then squares: 13 13 twice, 12 12 and 16 16 twice each.
        due("21 2 by 1", x.ice(1, 2, 1), 50);
        due("21 2 by 2", x.ice(1, 2, 2), 2 * 169 + 2 * (144 + 256));
        // a alone: all are alike, the sum is 2 times -9 to the n m.
        due("21 less than 0", x.ice(2, 3, 1), 1000000007 - 2 * 729);
        due("21 above 0", x.ice(2, 2, 1), 2 * 81);
        due("21 less than 0", x.ice(2, 5, 1), 1000000007 - 2 * 59049);
        Model model = new Model();
        model.weights(0, 9, 9, -9);
        for (int n = 2; n <= 6; n++) {
            for (int m = 1; m <= 8; m++) {
                due("21 " + n + " by " + m, x.ice(3, n, m), model.ice(0, n, m));
            }
        }
        due("21 unknown first", x.ice(4, 9, 9), -1);
        due("21 unknown", x.ice(-1, 2, 1), -1);
        due("21 outside", x.ice(0, 1, 1), -2);
        due("21 outside", x.ice(0, 7, 1), -2);
        due("21 outside", x.ice(0, 2, 0), -2);
        due("21 outside", x.ice(0, 2, 9), -2);
        due("21 outside", x.ice(0, 2, Integer.MIN_VALUE), -2);
    }

    private static void wallsAround() {
        MagnetRows x = new MagnetRows();
        x.weights(0, 1, 1, 1);
        x.weights(0, 2, 3, 4);
        x.weights(2, 2, 3, 4);
        int[] counted = {1, 2, 7, 42, 429, 7436};
        for (int n = 1; n <= 6; n++) {
            due("22 as many as told since Robbins", x.walls(0, n), counted[n - 1]);
        }
        due("22 c alone", x.walls(1, 1), 4);
        due("22 less than 0", x.walls(2, 1), 1000000003);
        due("22 two ways", x.walls(1, 2), 16 * (4 + 9));
        due("22 two ways", x.walls(2, 2), 16 * (4 + 9));
        due("22 seven ways", x.walls(2, 3), 999852487);
        due("22 seven ways", x.walls(1, 3), 1000000007 - 999852487);
        due("22 unknown first", x.walls(3, 9), -1);
        due("22 unknown", x.walls(-1, 1), -1);
        due("22 outside", x.walls(0, 0), -2);
        due("22 outside", x.walls(0, 7), -2);
        due("22 outside", x.walls(0, Integer.MAX_VALUE), -2);
    }

    private static void exchanging() {
        MagnetRows x = new MagnetRows();
        x.weights(0, 2, 1, 1);
        x.weights(0, 4, 3, 1);
        x.weights(0, 3, 2, 1);
        x.weights(0, 1, 1, 1);
        x.weights(1, 0, 1, 1);
        x.weights(2, 1, 0, -1);
        // u and u and 1: as l is k and m put together, the equation holds.
        due("23 holds", x.exchange(0, 1, 2), 0);
        due("23 holds the other way", x.exchange(2, 1, 0), 0);
        due("23 does not", x.exchange(1, 0, 2), 12);
        due("23 does not", x.exchange(3, 3, 3), 12);
        // Bits that change places.
        due("23 holds", x.exchange(4, 4, 4), 0);
        due("23 signed", x.exchange(0, 1, 5), new ModelExchange().unlike());
        due("23 unknown", x.exchange(6, 0, 0), -1);
        due("23 unknown", x.exchange(0, 6, 0), -1);
        due("23 unknown", x.exchange(0, 0, 6), -1);
        due("23 unknown", x.exchange(-1, 0, 0), -1);
    }

    /** The same three WEIGHTS in the Model. */
    private static final class ModelExchange {
        int unlike() {
            Model model = new Model();
            model.weights(0, 2, 1, 1);
            model.weights(0, 4, 3, 1);
            model.weights(2, 1, 0, -1);
            return model.exchange(0, 1, 2);
        }
    }
}
