import java.math.BigInteger;

/** The edges of ice: part 2 of the terms, and promises 16 to 23. */
public final class IceEdgesTest extends Edges {
    private static final long PRIME = 1000000007L;

    public static void main(String[] args) {
        Said.ask(IceEdgesTest::tell);
    }

    static void tell(Said said) {
        said.section("Terms");
        said.says("WEIGHTS, 6 ever, numbered as they come,", IceEdgesTest::sixEver);
        said.says("of a kind: 0 PLAIN; 1 TURNED, a PLAIN one; 2 SIGNED, a TURNED one;", IceEdgesTest::kinds);
        said.says("with a, b, c (-9 .. 9 each).", IceEdgesTest::numbers);
        said.says("They count: of PLAIN ones as told; of TURNED ones a and b are changed for one another; of SIGNED ones"
            + " that, too, and c is taken off (0 less c).", IceEdgesTest::asTheyCount);
        said.says("A CROSSING has four bits: from the left l, from beneath u, to the right r, above o: its WEIGHT is a,"
            + " if all are alike; b, if l is r, u is o, and l is not u; c, if l is o, u is r, and l is not u; else 0.",
            IceEdgesTest::crossings);
        said.says("THE ROW TABLE of WEIGHTS for N PLACES in a RING (2 .. 6):", IceEdgesTest::rowLengths);
        said.says("the entry of STATES (s, t): the sum, over all ways to put bits on the edges between neighbours, of the"
            + " product of WEIGHTS of CROSSINGS, with s beneath and t above, each one's r the next one's l, the last"
            + " one's r the l of PLACE 0.", IceEdgesTest::aroundTheRing);
        said.says("Two COMMUTE for N, if the product of their ROW TABLES does not hang on the order: UNLIKE: how many"
            + " entries do.", IceEdgesTest::commute);
        said.says("ICE of N by m (1 .. 8): the sum of the entries of THE ROW TABLE, done m times, of each STATE at"
            + " itself;", IceEdgesTest::iceRows);
        said.says("as the rest (0 and above) by 1000000007.", IceEdgesTest::iceRests);
        said.says("WALLS of n (1 .. 6): the sum, over all ways to put bits on the edges of n by n CROSSINGS, of the"
            + " product of WEIGHTS, where all edges that come from the left outside are 1, those to the right outside 0,"
            + " from beneath outside 0, above outside 1;", IceEdgesTest::wallsAround);
        said.says("as the rest by 1000000007.", IceEdgesTest::wallRests);
        said.says("EXCHANGE of three WEIGHTS k, l, m: on three bits, a table of WEIGHTS on two of them takes bits (x, y)"
            + " to (z, w) by the WEIGHT of the CROSSING with l x, u y, r z, o w (the third stays). That of k on bits 0"
            + " and 1, behind it that of l on 0 and 2, behind it that of m on 1 and 2; against: m on 1 and 2, then l on"
            + " 0 and 2, then k on 0 and 1: how many of 64 entries are unlike.", IceEdgesTest::exchanges);
        tellPromises(said);
    }

    private static void tellPromises(Said said) {
        said.section("Promise 16: weights");
        said.says("WEIGHTS: their number.", IceEdgesTest::theirNumber);
        said.says("OUTSIDE;", IceEdgesTest::weightsOutside);
        said.says("FULL.", IceEdgesTest::weightsFull);
        said.section("Promise 17: weightsOf");
        said.says("WEIGHTS come by three cells (a, b, c) of a SHEET from i on, taken as a row of a LANE, of a kind: their"
            + " number.", IceEdgesTest::byCells);
        said.says("UNKNOWN;", IceEdgesTest::byNoSheet);
        said.says("OUTSIDE: lane, kind;", IceEdgesTest::byNoLaneOrKind);
        said.says("CAST (nothing is no CAST);", IceEdgesTest::byAnotherLane);
        said.says("NULL;", IceEdgesTest::byNothing);
        said.says("INDEX;", IceEdgesTest::byCellsBeyond);
        said.says("OUTSIDE: a, b, c;", IceEdgesTest::byCellsOutside);
        said.says("FULL.", IceEdgesTest::byCellsFull);
        said.section("Promise 18: weight");
        said.says("As they count: 0 a, 1 b, 2 c, 3 kind.", IceEdgesTest::weight);
        said.says("LOST: UNKNOWN;", at -> unknownWeights(at, LOST, 0, "weight", 0, 0));
        said.says("OUTSIDE.", at -> weightsFor(at).limits(LOST, 0, 3, 1, "weight", 2, 0));
        said.section("Promise 19: rowEntry");
        said.says("THE ROW TABLE's entry for N PLACES.", IceEdgesTest::rowEntry);
        said.says("LOST: UNKNOWN;", at -> unknownWeights(at, LOST, 0, "rowEntry", 0, 2, 0, 0));
        said.says("OUTSIDE: n is not 2 .. 6,", at -> weightsFor(at).limits(LOST, 2, 6, 1, "rowEntry", 0, 2, 3, 3));
        said.says("a STATE.", IceEdgesTest::rowEntryStates);
        said.section("Promise 20: unlike");
        said.says("UNLIKE of two WEIGHTS for N.", IceEdgesTest::unlike);
        said.says("UNKNOWN;", IceEdgesTest::unlikeUnknown);
        said.says("OUTSIDE: n is not 2 .. 6.", at -> weightsFor(at).limits(OUTSIDE, 2, 6, 2, "unlike", 0, 1, 2));
        said.section("Promise 21: ice");
        said.says("ICE of N by m.", IceEdgesTest::ice);
        said.says("UNKNOWN;", at -> unknownWeights(at, UNKNOWN, 0, "ice", 0, 2, 1));
        said.says("OUTSIDE: n is not 2 .. 6, m.", IceEdgesTest::iceOutside);
        said.section("Promise 22: walls");
        said.says("WALLS of n.", IceEdgesTest::walls);
        said.says("UNKNOWN;", at -> unknownWeights(at, UNKNOWN, 0, "walls", 0, 1));
        said.says("OUTSIDE.", at -> weightsFor(at).limits(OUTSIDE, 1, 6, 1, "walls", 0, 1));
        said.section("Promise 23: exchange");
        said.says("EXCHANGE.", IceEdgesTest::exchange);
        said.says("UNKNOWN.", IceEdgesTest::exchangeUnknown);
    }

    /** PLAIN 2, 3, 5; TURNED so; SIGNED so. */
    private static Run weightsFor(Said said) {
        Run x = said.run();
        for (int kind = 0; kind < 3; kind++) {
            x.due(kind, "weights", kind, 2, 3, 5);
        }
        return x;
    }

    private static Run plain(Said said, int... numbers) {
        Run x = said.run();
        for (int i = 0; i < numbers.length; i += 3) {
            x.due(i / 3, "weights", 0, numbers[i], numbers[i + 1], numbers[i + 2]);
        }
        return x;
    }

    private static BigInteger big(long number) {
        return BigInteger.valueOf(number);
    }

    private static long rest(BigInteger number) {
        return number.mod(big(PRIME)).longValue();
    }

    // ---- the terms

    private static void sixEver(Said said) {
        Run x = said.run();
        x.made("chain", 3, true, 1, 1);
        for (int k = 0; k < 6; k++) {
            x.told(k, "many", 5);
            x.due(k, "weights", k % 3, k, 0, 0);
        }
        x.told(6, "many", 5);
        x.refused(FULL, "weights", 0, 0, 0, 0);
        // None of them goes again.
        x.made("undo");
        x.told(6, "many", 5);
        x.refused(FULL, "weights", 0, 0, 0, 0);
        x.made("redo");
        x.refused(FULL, "weights", 0, 0, 0, 0);
        for (int k = 0; k < 6; k++) {
            x.told(k % 3 == 0 ? k : 0, "weight", k, 0);
            x.told(k % 3 == 0 ? 0 : k, "weight", k, 1);
        }
    }

    private static void kinds(Said said) {
        Run x = weightsFor(said);
        for (int k = 0; k < 3; k++) {
            x.told(k, "weight", k, 3);
            for (int kind = 0; kind < 3; kind++) {
                if (kind <= k) {
                    x.told(1, "as", k, kind);
                } else {
                    x.faulted(CAST, "as", k, kind);
                }
            }
        }
        said.run().limits(OUTSIDE, 0, 2, 0, "weights", 0, 1, 1, 1);
    }

    private static void numbers(Said said) {
        for (int kind = 0; kind < 3; kind++) {
            for (int at = 1; at <= 3; at++) {
                said.run().limits(OUTSIDE, -9, 9, at, "weights", kind, 0, 0, 0);
                said.run().limits(OUTSIDE, -9, 9, at, "weights", kind, 9, -9, 9);
            }
        }
    }

    private static void asTheyCount(Said said) {
        for (int c = -9; c <= 9; c += 9) {
            Run x = said.run();
            long[][] want = {{-9, 9, c, 0}, {9, -9, c, 1}, {9, -9, -c, 2}};
            for (int kind = 0; kind < 3; kind++) {
                x.due(kind, "weights", kind, -9, 9, c);
                for (int what = 0; what < 4; what++) {
                    x.told(want[kind][what], "weight", kind, what);
                }
                // They count so in what is made of them.
                x.told(Math.floorMod(want[kind][2], PRIME), "walls", kind, 1);
            }
        }
    }

    private static void crossings(Said said) {
        Run x = plain(said, 2, 3, 5);
        // a a and b b; a b twice; c c; else 0.
        for (int s = 0; s < 4; s++) {
            for (int t = 0; t < 4; t++) {
                int want = s == t ? s == 0 || s == 3 ? 13 : 12 : s + t == 3 && s % 3 != 0 ? 25 : 0;
                x.told(want, "rowEntry", 0, 2, s, t);
            }
        }
        // From the left 1, to the right 0, from beneath 0, above 1: c.
        x.told(5, "walls", 0, 1);
    }

    private static void rowLengths(Said said) {
        Run x = weightsFor(said);
        x.limits(LOST, 2, 6, 1, "rowEntry", 0, 2, 0, 0);
        x.limits(OUTSIDE, 2, 6, 2, "unlike", 0, 2, 2);
        x.limits(OUTSIDE, 2, 6, 1, "ice", 0, 2, 1);
        for (int n = 2; n <= 6; n++) {
            int all = (1 << n) - 1;
            long want = Math.round(Math.pow(2, n) + Math.pow(3, n));
            for (int k = 0; k < 3; k++) {
                x.told(want, "rowEntry", k, n, 0, 0);
                x.told(want, "rowEntry", k, n, all, all);
                x.told(0, "rowEntry", k, n, 0, all);
            }
        }
    }

    private static void aroundTheRing(Said said) {
        Run x = plain(said, 2, 3, 5);
        // One UP goes on by one, by two; from the last PLACE to 0, and by two.
        x.told(5 * 5 * 2, "rowEntry", 0, 3, 1, 2);
        x.told(5 * 5 * 3, "rowEntry", 0, 3, 1, 4);
        x.told(5 * 5 * 2, "rowEntry", 0, 3, 4, 1);
        x.told(5 * 5 * 3, "rowEntry", 0, 3, 2, 1);
        x.told(25 * 16, "rowEntry", 0, 6, 32, 1);
        x.told(25 * 81, "rowEntry", 0, 6, 1, 32);
        // Where all stay, the edges are all 0 or all 1.
        x.told(3 * 2 * 2 + 2 * 3 * 3, "rowEntry", 0, 3, 4, 4);
        // Of two the one passes the other by, or it stays where the edges are 0.
        x.told(5 * 5 * 2, "rowEntry", 0, 3, 3, 6);
        x.told(5 * 5 * 3, "rowEntry", 0, 3, 3, 5);
    }

    private static void commute(Said said) {
        // Those with a a + b b - c c by 2 a b alike do for each N; any two do for 2 and 3.
        Run x = plain(said, 2, 1, 1, 4, 3, 1, 1, 1, 1, 1, 2, 3, 0, 0, 0);
        x.due(5, "weights", 1, 4, 3, 1);
        for (int n = 2; n <= 6; n++) {
            x.told(0, "unlike", 0, 1, n);
            x.told(0, "unlike", 0, 5, n);
            x.told(0, "unlike", 3, 3, n);
            x.told(0, "unlike", 3, 4, n);
        }
        long[] unlikes = {0, 0, 16, 100, 456};
        for (int n = 2; n <= 6; n++) {
            x.told(unlikes[n - 2], "unlike", 2, 3, n);
            x.told(unlikes[n - 2], "unlike", 3, 2, n);
        }
    }

    private static void iceRows(Said said) {
        // a alone or b alone: all are alike, 2 times it to the N m.
        Run x = plain(said, 7, 0, 0, 0, -7, 0, 0, 0, 3, 0, 0, 0, 1, 1, 1);
        for (int n = 2; n <= 6; n++) {
            for (int m = 1; m <= 8; m++) {
                x.due(rest(big(7).pow(n * m).multiply(big(2))), "ice", 0, n, m);
                x.due(rest(big(-7).pow(n * m).multiply(big(2))), "ice", 1, n, m);
                // c alone: two STATES by turns UP, which go to one another.
                long ways = n % 2 == 0 && m % 2 == 0 ? 2 : 0;
                x.due(rest(big(3).pow(n * m).multiply(big(ways))), "ice", 2, n, m);
                x.due(0, "ice", 3, n, m);
            }
        }
        x.told(8, "ice", 4, 2, 1);
        x.told(18, "ice", 4, 2, 2);
        x.limits(OUTSIDE, 1, 8, 2, "ice", 4, 6, 1);
    }

    private static void iceRests(Said said) {
        Run x = plain(said, -9, 0, 0, 9, 9, 9, -9, -9, -9);
        x.told(PRIME - 2 * 729, "ice", 0, 3, 1);
        x.told(PRIME - 2 * 59049, "ice", 0, 5, 1);
        x.told(2 * 81, "ice", 0, 2, 1);
        x.told(rest(big(9).pow(48).multiply(big(2))), "ice", 0, 6, 8);
        x.told(rest(big(-9).pow(35).multiply(big(2))), "ice", 0, 5, 7);
        // All alike: as many ways as 2 by 2, 3 by 1 have, each 9 to the N m.
        x.told(18 * 6561, "ice", 1, 2, 2);
        x.told(18 * 6561, "ice", 2, 2, 2);
        // Ways of a row of 3, at itself: 8 STATES, 2 each.
        x.told(16 * 729, "ice", 1, 3, 1);
        x.told(PRIME - 16 * 729, "ice", 2, 3, 1);
    }

    private static void wallsAround(Said said) {
        Run x = plain(said, 1, 1, 1, 2, 3, 4, 2, 3, 0, 0, 3, 4, 2, 0, 4);
        long[] ways = {1, 2, 7, 42, 429, 7436};
        for (int n = 1; n <= 6; n++) {
            x.told(ways[n - 1], "walls", 0, n);
            // A c is in each row.
            x.told(0, "walls", 2, n);
        }
        x.told(4, "walls", 1, 1);
        // Two ways: c c with a a, or with b b.
        x.told(16 * (4 + 9), "walls", 1, 2);
        x.told(16 * 9, "walls", 3, 2);
        x.told(16 * 4, "walls", 4, 2);
        x.limits(OUTSIDE, 1, 6, 1, "walls", 0, 1);
    }

    private static void wallRests(Said said) {
        Run x = plain(said, 9, 9, 9, -9, -9, -9, 0, 0, -1);
        long[] ways = {1, 2, 7, 42, 429, 7436};
        for (int n = 1; n <= 6; n++) {
            x.told(rest(big(9).pow(n * n).multiply(big(ways[n - 1]))), "walls", 0, n);
            x.told(rest(big(-9).pow(n * n).multiply(big(ways[n - 1]))), "walls", 1, n);
        }
        x.told(PRIME - 1, "walls", 2, 1);
        x.told(PRIME - 9, "walls", 1, 1);
    }

    private static void exchanges(Said said) {
        // Bits change places; nothing changes; unlike bits count twice.
        Run x = plain(said, 1, 0, 1, 1, 1, 0, 1, 2, 0);
        x.told(0, "exchange", 0, 0, 0);
        x.told(0, "exchange", 1, 1, 1);
        x.told(0, "exchange", 2, 2, 2);
        x.told(0, "exchange", 0, 1, 1);
        // The four STATES whose two bits that change places are unlike.
        x.told(4, "exchange", 0, 1, 2);
        x.told(4, "exchange", 1, 0, 2);
        x.told(4, "exchange", 2, 0, 1);
        x.told(4, "exchange", 2, 1, 0);
        // Two that change places go round, one way or the other: six STATES come elsewhere, two entries each.
        x.told(12, "exchange", 0, 0, 1);
        x.told(12, "exchange", 0, 1, 0);
        x.told(12, "exchange", 1, 0, 0);
        // a is b and 1, c is 1: it holds where l's b is k's and m's.
        x = plain(said, 2, 1, 1, 4, 3, 1, 3, 2, 1);
        x.told(0, "exchange", 0, 1, 2);
        x.told(0, "exchange", 2, 1, 0);
        x.told(12, "exchange", 1, 0, 2);
        x.told(12, "exchange", 0, 2, 1);
    }

    // ---- promises 16 to 18

    private static void theirNumber(Said said) {
        Run x = said.run();
        for (int k = 0; k < 6; k++) {
            x.due(k, "weights", 2 - k % 3, k, k + 1, k - 9);
            // A refused one has no number.
            x.refused(OUTSIDE, "weights", 3, 0, 0, 0);
        }
        x.told(0, "many", 6);
    }

    private static void weightsOutside(Said said) {
        Run x = said.full();
        x.limits(OUTSIDE, 0, 2, 0, "weights", 0, 9, 9, 9);
        for (int at = 1; at <= 3; at++) {
            x.limits(OUTSIDE, -9, 9, at, "weights", 2, -9, -9, -9);
        }
    }

    private static void weightsFull(Said said) {
        Run x = said.run();
        for (int k = 0; k < 6; k++) {
            x.due(k, "weights", 0, 1, 1, 1);
        }
        for (int kind = 0; kind < 3; kind++) {
            x.refused(FULL, "weights", kind, 9, -9, 0);
        }
        x.told(6, "many", 5);
    }

    /** SHEET k has a row of LANE k, 0, 1, 2 and SHEET 3 of ints: 9, -9, 9, -9, 9. */
    private static Run sheetsFor(Said said) {
        Run x = said.run();
        for (int k = 0; k < 4; k++) {
            x.made("sheet", k, Math.min(k, 2), 5);
            for (int i = 0; i < 5; i++) {
                x.made("put", k, i, i % 2 == 0 ? 9 : -9);
            }
        }
        return x;
    }

    private static void byCells(Said said) {
        for (int lane = 0; lane < 3; lane++) {
            Run x = sheetsFor(said);
            long[][] want = {{9, -9, 9, 0}, {9, -9, -9, 1}, {-9, 9, -9, 2}};
            for (int i = 0; i < 3; i++) {
                x.due(i, "weightsOf", i, lane, lane, i);
                x.due(0, "fault");
                for (int what = 0; what < 4; what++) {
                    x.told(want[i][what], "weight", i, what);
                }
            }
            // They do not hang on the SHEET any more.
            x.made("put", lane, 0, 0);
            x.told(9, "weight", 0, 0);
            x.made("lose", lane);
            x.told(9, "weight", 0, 0);
        }
        // What is cut to bytes and shorts may be taken.
        Run x = sheetsFor(said);
        x.made("put", 0, 0, 256 + 8);
        x.made("put", 1, 0, 65536 - 8);
        x.due(0, "weightsOf", 0, 0, 0, 0);
        x.due(1, "weightsOf", 0, 1, 1, 0);
        x.told(8, "weight", 0, 0);
        x.told(-8, "weight", 1, 0);
    }

    private static void byNoSheet(Said said) {
        Run x = sheetsFor(said);
        for (int k : new int[] {-1, 4, MIN, MAX}) {
            x.refused(UNKNOWN, "weightsOf", 0, k, 2, 0);
            x.refused(UNKNOWN, "weightsOf", 3, k, 3, 9);
        }
        for (int k = 0; k < 4; k++) {
            x.taken(1, k, "weightsOf", 0, 0, Math.min(k, 2), 0);
        }
    }

    private static void byNoLaneOrKind(Said said) {
        Run x = sheetsFor(said);
        x.limits(OUTSIDE, 0, 2, 0, "weightsOf", 0, 1, 1, 0);
        for (int lane : new int[] {-1, 3, MIN, MAX}) {
            x.refused(OUTSIDE, "weightsOf", 0, 1, lane, 0);
            // Ahead of INDEX.
            x.refused(OUTSIDE, "weightsOf", 0, 1, lane, 9);
        }
        for (int kind : new int[] {-1, 3}) {
            // Ahead of CAST and INDEX.
            x.refused(OUTSIDE, "weightsOf", kind, 1, 0, 9);
        }
        // Ahead of NULL.
        x.made("lose", 1);
        x.refused(OUTSIDE, "weightsOf", 3, 1, 1, 0);
        x.refused(OUTSIDE, "weightsOf", 0, 1, 3, 0);
    }

    private static void byAnotherLane(Said said) {
        Run x = sheetsFor(said);
        for (int k = 0; k < 3; k++) {
            for (int lane = 0; lane < 3; lane++) {
                if (lane != k) {
                    x.faulted(CAST, "weightsOf", 0, k, lane, 0);
                    x.faulted(CAST, "weightsOf", 0, k, lane, 9);
                } else {
                    x.taken(2, lane, "weightsOf", 0, k, lane, 0);
                }
            }
        }
        // Of a row of none it is a CAST, of nothing it is none.
        x.made("sheet", 0, 0, 0);
        x.faulted(CAST, "weightsOf", 0, 0, 1, 0);
        x.made("lose", 0);
        x.faulted(NULL, "weightsOf", 0, 0, 1, 0);
    }

    private static void byNothing(Said said) {
        Run x = said.run();
        for (int lane = 0; lane < 3; lane++) {
            x.faulted(NULL, "weightsOf", 0, lane, lane, 0);
            x.faulted(NULL, "weightsOf", 0, 3, lane, -1);
        }
    }

    private static void byCellsBeyond(Said said) {
        Run x = sheetsFor(said);
        for (int i : new int[] {-1, 3, 4, 5, 6, MIN, MAX, MAX - 1, MAX - 2}) {
            x.faulted(INDEX, "weightsOf", 0, 1, 1, i);
        }
        for (int i = 0; i <= 2; i++) {
            x.taken(3, i, "weightsOf", 0, 1, 1, 0);
        }
        // Rows of none, two, three.
        x.made("sheet", 0, 0, 0);
        x.faulted(INDEX, "weightsOf", 0, 0, 0, 0);
        x.made("sheet", 0, 0, 2);
        x.faulted(INDEX, "weightsOf", 0, 0, 0, 0);
        x.made("sheet", 0, 0, 3);
        x.taken(3, 0, "weightsOf", 0, 0, 0, 0);
        x.faulted(INDEX, "weightsOf", 0, 0, 0, 1);
        // Ahead of a cell that is outside.
        x.made("put", 0, 2, 10);
        x.faulted(INDEX, "weightsOf", 0, 0, 0, 1);
    }

    private static void byCellsOutside(Said said) {
        Run x = sheetsFor(said);
        for (int cell = 0; cell < 3; cell++) {
            for (int v : new int[] {-10, 10, 127, -128}) {
                x.made("put", 0, cell, v);
                x.refused(OUTSIDE, "weightsOf", 0, 0, 0, 0);
            }
            for (int v : new int[] {-10, 10, MIN, MAX}) {
                x.made("put", 2, cell, v);
                x.refused(OUTSIDE, "weightsOf", 2, 2, 2, 0);
            }
            for (int v : new int[] {9, -9}) {
                x.made("put", 0, cell, v);
                x.made("put", 2, cell, v);
                x.taken(0, 0, "weightsOf", 0, 0, 0, 0);
                x.taken(0, 2, "weightsOf", 0, 2, 2, 0);
            }
        }
    }

    private static void byCellsFull(Said said) {
        Run x = sheetsFor(said);
        for (int k = 0; k < 6; k++) {
            x.due(k, "weightsOf", k % 3, 1, 1, 0);
        }
        x.refused(FULL, "weightsOf", 0, 1, 1, 0);
        x.refused(FULL, "weights", 0, 0, 0, 0);
        x.faulted(INDEX, "weightsOf", 0, 1, 1, 3);
        x.faulted(CAST, "weightsOf", 0, 1, 2, 0);
        x.made("put", 1, 1, 10);
        x.refused(OUTSIDE, "weightsOf", 0, 1, 1, 0);
    }

    private static void weight(Said said) {
        Run x = weightsFor(said);
        long[][] want = {{2, 3, 5, 0}, {3, 2, 5, 1}, {3, 2, -5, 2}};
        for (int k = 0; k < 3; k++) {
            for (int what = 0; what < 4; what++) {
                x.told(want[k][what], "weight", k, what);
            }
        }
    }

    // ---- promises 19 to 23

    private static void rowEntry(Said said) {
        Run x = plain(said, 9, 9, 9, -9, 0, 0);
        // The largest entry, and the least.
        x.told(2 * 531441, "rowEntry", 0, 6, 63, 63);
        x.told(-59049, "rowEntry", 1, 5, 0, 0);
        x.told(-59049, "rowEntry", 1, 5, 31, 31);
        // It does not hang on THE CHAIN.
        x.made("chain", 2, false, 1, 0);
        x.told(2 * 531441, "rowEntry", 0, 6, 63, 63);
    }

    private static void rowEntryStates(Said said) {
        Run x = weightsFor(said);
        for (int n = 2; n <= 6; n++) {
            x.limits(LOST, 0, (1 << n) - 1, 2, "rowEntry", 1, n, 0, 0);
            x.limits(LOST, 0, (1 << n) - 1, 3, "rowEntry", 2, n, 0, 0);
        }
    }

    private static void unlike(Said said) {
        Run x = plain(said, 9, -9, 9, -9, 9, 1, 0, 0, 0);
        for (int n = 2; n <= 6; n++) {
            x.told(0, "unlike", 0, 0, n);
            x.told(0, "unlike", 0, 2, n);
            x.told(0, "unlike", 2, 2, n);
        }
        x.told(0, "unlike", 0, 1, 2);
        x.told(0, "unlike", 0, 1, 3);
    }

    private static void unlikeUnknown(Said said) {
        unknownWeights(said, UNKNOWN, 0, "unlike", 0, 0, 2);
        unknownWeights(said, UNKNOWN, 1, "unlike", 0, 0, 2);
        Run x = weightsFor(said);
        x.refused(UNKNOWN, "unlike", 3, 0, 1);
        x.refused(UNKNOWN, "unlike", 0, 3, 7);
    }

    private static void ice(Said said) {
        Run x = plain(said, 1, 1, 1, 2, 3, 4);
        // Of 2: 13 13 at none and all UP, 12 and 16 between, so 12 + 16 and 12 - 16 to the m.
        for (int m = 1; m <= 8; m++) {
            BigInteger sum = big(13).pow(m).multiply(big(2)).add(big(28).pow(m)).add(big(-4).pow(m));
            x.told(rest(sum), "ice", 1, 2, m);
        }
        x.told(8, "ice", 0, 2, 1);
        x.told(16, "ice", 0, 3, 1);
        x.told(128, "ice", 0, 6, 1);
    }

    private static void iceOutside(Said said) {
        Run x = weightsFor(said);
        x.limits(OUTSIDE, 2, 6, 1, "ice", 0, 2, 8);
        x.limits(OUTSIDE, 1, 8, 2, "ice", 0, 2, 1);
        x.refused(OUTSIDE, "ice", 0, 1, 0);
    }

    private static void walls(Said said) {
        Run x = weightsFor(said);
        x.told(5, "walls", 0, 1);
        x.told(5, "walls", 1, 1);
        x.told(PRIME - 5, "walls", 2, 1);
        for (int k = 0; k < 3; k++) {
            x.told(25 * 13, "walls", k, 2);
        }
    }

    private static void exchange(Said said) {
        // Bits change places, of each kind: c as it counts is 1.
        Run x = said.run();
        x.due(0, "weights", 0, 1, 0, 1);
        x.due(1, "weights", 1, 0, 1, 1);
        x.due(2, "weights", 2, 0, 1, -1);
        x.told(0, "exchange", 0, 1, 2);
        x.told(0, "exchange", 2, 2, 2);
        // With less 1 where unlike ones change places: unlike where bits 0 and 2 are.
        x.due(3, "weights", 0, 1, 0, -1);
        x.told(4, "exchange", 3, 3, 3);
        x.due(4, "weights", 2, 0, 1, 1);
        x.told(4, "exchange", 4, 4, 4);
    }

    private static void exchangeUnknown(Said said) {
        for (int at = 0; at < 3; at++) {
            unknownWeights(said, UNKNOWN, at, "exchange", 0, 0, 0);
        }
    }
}
