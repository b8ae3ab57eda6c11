import java.util.stream.IntStream;

/** The edges of THE CHAIN: part 1 of the terms, and promises 1 to 15. */
public final class ChainEdgesTest extends Edges {
    private static final int[] NO_SIGNS = {0, 2, -2, 3, MIN, MAX};

    public static void main(String[] args) {
        Said.ask(ChainEdgesTest::tell);
    }

    static void tell(Said said) {
        said.section("Terms");
        said.says("THE CHAIN has N PLACES (2 .. 8; 6 at first),", ChainEdgesTest::places);
        said.says("is a RING (at first) or OPEN,", ChainEdgesTest::ringOrOpen);
        said.says("has a SWAP e (1 .. 4; 2 at first)", ChainEdgesTest::swaps);
        said.says("and a BENT d (-2 .. 2; 1 at first).", ChainEdgesTest::bents);
        said.says("STATES are 0 .. 2 to the N less 1: PLACE i is UP, where bit i is 1.", ChainEdgesTest::states);
        said.says("PAIRS are the PLACES i and i + 1 (i from 0 to N - 2), of a RING N - 1 and 0, too"
            + " (so N 2 has its PAIR twice).", ChainEdgesTest::pairs);
        said.says("H of a STATE: of each PAIR: d times the STATE, if both are alike; else e times the STATE with both"
            + " changed for one another, less d times the STATE.", ChainEdgesTest::ofEachPair);
        said.says("TURN of a STATE: of a RING each PLACE's goes to the next one (that of N - 1 to 0); of an OPEN one"
            + " PLACE i's goes to N - 1 - i.", ChainEdgesTest::turns);
        said.says("ORBITS: STATES that come of one another by TURNS.", ChainEdgesTest::orbits);
        said.says("A SECTOR is told by M (how many are UP, 0 .. N) and SIGN (1 or -1): the ORBITS of STATES with M UP,"
            + " by their least STATE (their HEAD), in order;", ChainEdgesTest::sectors);
        said.says("of SIGN -1 those alone of which no STATE comes of itself by an odd number of TURNS.",
            ChainEdgesTest::oddTurns);
        said.says("The SIGN of a STATE of an ORBIT is 1, or -1, if SIGN is -1 and it comes of the HEAD by an odd number"
            + " of TURNS.", ChainEdgesTest::signs);
        said.says("A SECTOR with more than 10 ORBITS is SPENT.", ChainEdgesTest::spentSectors);
        said.says("ITS TABLE: the entry of ORBITS (i, j): the sum, over all STATES s of the j-th, of the SIGN of s times"
            + " how often H of s has the HEAD of the i-th.", ChainEdgesTest::tables);
        said.says("ITS POLYNOMIAL p(x): the determinant of x times the unit table less ITS TABLE; coefficients by"
            + " powers, that of x to the size is 1.", ChainEdgesTest::polynomials);
        said.says("OWN NUMBERS: its roots (they are all real), each as often as it is one.",
            ChainEdgesTest::ownNumbers);
        said.says("POWER SUM of n (1 .. 4): the sum of OWN NUMBERS to the n;", ChainEdgesTest::powerSums);
        said.says("of M alone: that of all STATES with M UP (the sum of the entries of H, done n times, of each STATE"
            + " at itself).", ChainEdgesTest::powerSumsOfAll);
        said.says("REST of a SECTOR at a whole number c that is an OWN NUMBER just once: the row of whole numbers v, one"
            + " for each ORBIT, for which ITS TABLE times v is c times v;", ChainEdgesTest::rests);
        said.says("without a common divisor, the first that is not 0 above 0.", ChainEdgesTest::leastRests);
        said.says("(SPENT: one of more than 1000000 in size.)", ChainEdgesTest::noRestIsSpent);
        said.says("The share of a STATE: its SIGN times that of its ORBIT.", ChainEdgesTest::shares);
        said.says("SEEN there, of two PLACES i, j: the sum, over all STATES of the SECTOR's ORBITS, of the square of the"
            + " share, taken off where both are unlike, by the sum of these squares: told as upper and lower number in"
            + " least terms.", ChainEdgesTest::seens);
        tellPromises(said);
    }

    private static void tellPromises(Said said) {
        said.section("Promise 1: A new object");
        said.says("THE CHAIN as at first;", ChainEdgesTest::newChain);
        said.says("no WEIGHTS, SHEETS;", ChainEdgesTest::newParts);
        said.says("SUMS are empty.", ChainEdgesTest::newSums);
        said.section("Promise 2: chain");
        said.says("THE CHAIN becomes so: how many STATES.", ChainEdgesTest::chainBecomes);
        said.says("OUTSIDE: n, e, d.", ChainEdgesTest::chainOutside);
        said.section("Promise 3: act");
        said.says("H of a STATE: the number at another one (perhaps itself).", ChainEdgesTest::acts);
        said.says("LOST: OUTSIDE: a STATE.", ChainEdgesTest::actLost);
        said.section("Promise 4: turned");
        said.says("A STATE, TURNED once.", ChainEdgesTest::turnedOnce);
        said.says("OUTSIDE.", ChainEdgesTest::turnedOutside);
        said.section("Promise 5: size");
        said.says("How many ORBITS a SECTOR has (it may be SPENT: it is told all the same).", ChainEdgesTest::sizes);
        said.says("OUTSIDE: M, SIGN.", at -> sectorLimits(at, OUTSIDE, "size"));
        said.section("Promise 6: head");
        said.says("The HEAD of its i-th ORBIT.", ChainEdgesTest::heads);
        said.says("OUTSIDE;", at -> sectorLimits(at, OUTSIDE, "head", 0));
        said.says("UNKNOWN: i.", ChainEdgesTest::headUnknown);
        said.section("Promise 7: entry");
        said.says("ITS TABLE's entry.", ChainEdgesTest::entries);
        said.says("LOST: OUTSIDE,", at -> sectorLimits(at, LOST, "entry", 0, 0));
        said.says("UNKNOWN: i, j,", ChainEdgesTest::entryUnknown);
        said.says("SPENT.", at -> spent(at, LOST, "entry", 0, 0));
        said.section("Promise 8: poly");
        said.says("ITS POLYNOMIAL's coefficient of x to the k.", ChainEdgesTest::coefficients);
        said.says("LOST: OUTSIDE,", at -> sectorLimits(at, LOST, "poly", 0));
        said.says("UNKNOWN: k is not 0 .. its size,", ChainEdgesTest::polyUnknown);
        said.says("SPENT.", at -> spent(at, LOST, "poly", 0));
        said.section("Promise 9: above");
        said.says("How many OWN NUMBERS are above c (-50 .. 50).", ChainEdgesTest::above);
        said.says("OUTSIDE;", at -> numberLimits(at, "above"));
        said.says("SPENT.", at -> spent(at, SPENT, "above", 0));
        said.section("Promise 10: often");
        said.says("How often c (-50 .. 50) is an OWN NUMBER.", ChainEdgesTest::often);
        said.says("OUTSIDE;", at -> numberLimits(at, "often"));
        said.says("SPENT.", at -> spent(at, SPENT, "often", 0));
        said.section("Promise 11: whole");
        said.says("How many OWN NUMBERS are whole.", ChainEdgesTest::whole);
        said.says("OUTSIDE;", at -> sectorLimits(at, OUTSIDE, "whole"));
        said.says("SPENT.", at -> spent(at, SPENT, "whole"));
        said.section("Promise 12: power");
        said.says("POWER SUM of a SECTOR.", ChainEdgesTest::power);
        said.says("LOST: OUTSIDE: M, SIGN, n;", ChainEdgesTest::powerOutside);
        said.says("SPENT.", at -> spent(at, LOST, "power", 1));
        said.section("Promise 13: powerOf");
        said.says("POWER SUM of M alone.", ChainEdgesTest::powerOf);
        said.says("LOST: OUTSIDE.", ChainEdgesTest::powerOfOutside);
        said.section("Promise 14: rest");
        said.says("REST at c (-50 .. 50): the number of the i-th ORBIT.", ChainEdgesTest::rest);
        said.says("LOST: OUTSIDE;", ChainEdgesTest::restOutside);
        said.says("SPENT: the SECTOR;", ChainEdgesTest::restSpent);
        said.says("STATE: c is not an OWN NUMBER just once;", ChainEdgesTest::restNotJustOnce);
        said.says("UNKNOWN: i; SPENT.", ChainEdgesTest::restUnknown);
        said.section("Promise 15: seen");
        said.says("SEEN in REST at c: upper number (which 0), lower (1).", ChainEdgesTest::seen);
        said.says("LOST: as rest();", ChainEdgesTest::seenAsRest);
        said.says("UNKNOWN: a PLACE;", ChainEdgesTest::seenUnknown);
        said.says("OUTSIDE: which.", ChainEdgesTest::seenWhich);
    }

    // ---- the terms

    private static void places(Said said) {
        Run x = said.run();
        x.told(6, "many", 0);
        x.limits(OUTSIDE, 2, 8, 0, "chain", 6, true, 2, 1);
        x.limits(OUTSIDE, 2, 8, 0, "chain", 6, false, 2, 1);
    }

    private static void ringOrOpen(Said said) {
        Run x = said.run();
        x.told(1, "many", 1);
        x.due(64, "chain", 6, false, 2, 1);
        x.told(0, "many", 1);
        x.due(64, "chain", 6, true, 2, 1);
        x.told(1, "many", 1);
    }

    private static void swaps(Said said) {
        Run x = said.run();
        x.told(2, "many", 2);
        x.told(2, "act", 1, 2);
        x.limits(OUTSIDE, 1, 4, 2, "chain", 6, true, 2, 1);
        for (int e = 1; e <= 4; e++) {
            x.due(8, "chain", 3, false, e, 0);
            x.told(e, "many", 2);
            x.told(e, "act", 1, 2);
        }
    }

    private static void bents(Said said) {
        Run x = said.run();
        x.told(101, "many", 3);
        x.told(6, "act", 0, 0);
        x.limits(OUTSIDE, -2, 2, 3, "chain", 6, true, 2, 1);
        for (int d = -2; d <= 2; d++) {
            x.due(8, "chain", 3, false, 1, d);
            x.told(100 + d, "many", 3);
            x.told(2 * d, "act", 0, 0);
        }
    }

    private static void states(Said said) {
        for (int n = 2; n <= 8; n++) {
            Run x = said.chain(n, n % 2 == 0, 1, 1);
            int last = (1 << n) - 1;
            x.limits(LOST, 0, last, 0, "act", 0, 0);
            x.limits(LOST, 0, last, 1, "act", 0, 0);
            x.limits(OUTSIDE, 0, last, 0, "turned", 0);
        }
        Run x = said.chain(4, false, 1, 1);
        for (int place = 0; place < 4; place++) {
            x.told(1 << 3 - place, "turned", 1 << place);
        }
    }

    private static void pairs(Said said) {
        for (int n = 2; n <= 8; n++) {
            Run ring = said.chain(n, true, 3, 0);
            Run open = said.chain(n, false, 3, 0);
            ring.told(n, "many", 4);
            open.told(n - 1, "many", 4);
            for (int i = 0; i < n; i++) {
                for (int j = i + 1; j < n; j++) {
                    int next = j == i + 1 ? 1 : 0;
                    int around = i == 0 && j == n - 1 ? 1 : 0;
                    open.told(3 * next, "act", 1 << i, 1 << j);
                    ring.told(3 * (next + around), "act", 1 << i, 1 << j);
                    ring.told(3 * (next + around), "act", 1 << j, 1 << i);
                }
            }
        }
        Run two = said.chain(2, true, 3, 2);
        two.told(6, "act", 1, 2);
        two.told(6, "act", 2, 1);
        two.told(-4, "act", 1, 1);
        two.told(4, "act", 0, 0);
        two.told(4, "act", 3, 3);
        two = said.chain(2, false, 3, 2);
        two.told(3, "act", 1, 2);
        two.told(-2, "act", 1, 1);
        two.told(2, "act", 3, 3);
    }

    private static void ofEachPair(Said said) {
        Run x = said.chain(3, false, 3, -2);
        // All alike: d for each PAIR, and no other STATE.
        x.told(-4, "act", 0, 0);
        x.told(-4, "act", 7, 7);
        for (int to = 1; to < 8; to++) {
            x.told(0, "act", 0, to);
            x.told(0, "act", 7, to - 1);
        }
        // 001: one PAIR unlike, one alike; 010: both unlike.
        x.told(0, "act", 1, 1);
        x.told(3, "act", 1, 2);
        x.told(0, "act", 1, 4);
        x.told(4, "act", 2, 2);
        x.told(3, "act", 2, 1);
        x.told(3, "act", 2, 4);
        // 101 and 110: an alike PAIR is not changed, unlike ones are changed for one another.
        x.told(3, "act", 5, 6);
        x.told(3, "act", 5, 3);
        x.told(0, "act", 3, 6);
        x.told(0, "act", 3, 0);
    }

    private static void turns(Said said) {
        for (int n = 2; n <= 8; n++) {
            Run ring = said.chain(n, true, 1, 1);
            Run open = said.chain(n, false, 1, 1);
            int all = (1 << n) - 1;
            for (int place = 0; place < n; place++) {
                int next = place == n - 1 ? 0 : place + 1;
                ring.told(1 << next, "turned", 1 << place);
                ring.told(all - (1 << next), "turned", all - (1 << place));
                open.told(1 << n - 1 - place, "turned", 1 << place);
                open.told(all - (1 << n - 1 - place), "turned", all - (1 << place));
            }
            ring.told(0, "turned", 0);
            ring.told(all, "turned", all);
            open.told(0, "turned", 0);
            open.told(all, "turned", all);
        }
    }

    private static void orbits(Said said) {
        Run x = said.chain(4, true, 1, 1);
        // 0011 has four STATES, 0101 two, none UP one.
        x.told(2, "size", 2, 1);
        x.told(3, "head", 2, 1, 0);
        x.told(5, "head", 2, 1, 1);
        x.told(1, "size", 0, 1);
        x.told(1, "size", 1, 1);
        x = said.chain(4, false, 1, 1);
        // 0011 with 1100, 0101 with 1010, 0110 and 1001 alone.
        x.told(4, "size", 2, 1);
    }

    private static void sectors(Said said) {
        for (int n = 2; n <= 8; n++) {
            Run x = said.chain(n, n % 2 == 1, 1, 1);
            x.limits(OUTSIDE, 0, n, 0, "size", 0, 1);
            x.limits(OUTSIDE, 0, n, 0, "size", 0, -1);
            x.taken(1, 1, "size", n, 1);
            x.taken(1, -1, "size", n, 1);
            for (int sign : NO_SIGNS) {
                x.refused(OUTSIDE, "size", n, sign);
            }
            // None and all UP: one STATE each.
            x.told(1, "size", 0, 1);
            x.told(0, "head", 0, 1, 0);
            x.told(1, "size", n, 1);
            x.told((1 << n) - 1, "head", n, 1, 0);
        }
        Run x = said.chain(6, true, 1, 1);
        int[] heads = {7, 11, 13, 21};
        for (int i = 0; i < 4; i++) {
            x.told(heads[i], "head", 3, 1, i);
        }
        x = said.chain(4, false, 1, 1);
        int[] openHeads = {3, 5, 6, 9};
        for (int i = 0; i < 4; i++) {
            x.told(openHeads[i], "head", 2, 1, i);
        }
    }

    private static void oddTurns(Said said) {
        // Of an odd RING each STATE comes of itself by N TURNS.
        for (int n = 3; n <= 7; n += 2) {
            Run x = said.chain(n, true, 1, 1);
            for (int m = 0; m <= n; m++) {
                x.told(0, "size", m, -1);
                x.refused(UNKNOWN, "head", m, -1, 0);
            }
        }
        // By one TURN: none and all UP.
        for (int n = 2; n <= 8; n++) {
            Run x = said.chain(n, n % 2 == 0, 1, 1);
            x.told(0, "size", 0, -1);
            x.told(0, "size", n, -1);
        }
        // 001001 comes of itself by 3 TURNS; 010101 by 2; 000101 by 6 alone.
        Run x = said.chain(6, true, 1, 1);
        x.told(2, "size", 2, -1);
        x.told(3, "head", 2, -1, 0);
        x.told(5, "head", 2, -1, 1);
        x.told(4, "size", 3, -1);
        x.told(21, "head", 3, -1, 3);
        // OPEN: what is the same from both ends comes of itself by one.
        x = said.chain(4, false, 1, 1);
        x.told(2, "size", 2, -1);
        x.told(3, "head", 2, -1, 0);
        x.told(5, "head", 2, -1, 1);
        x = said.chain(3, false, 1, 1);
        x.told(1, "size", 1, -1);
        x.told(1, "head", 1, -1, 0);
    }

    private static void signs(Said said) {
        // One UP of a RING of 4: both neighbours come of the HEAD by an odd number of TURNS.
        Run x = said.chain(4, true, 2, 1);
        x.told(4, "entry", 1, 1, 0, 0);
        x.told(-4, "entry", 1, -1, 0, 0);
        // Two UP: 0101 goes to two STATES of each SIGN, so that nothing is left.
        x.told(8, "entry", 2, 1, 1, 0);
        x.told(0, "entry", 2, -1, 1, 0);
        x.told(4, "entry", 2, 1, 0, 1);
        x.told(0, "entry", 2, -1, 0, 1);
        // OPEN: the other STATE comes by one TURN.
        x = said.chain(2, false, 2, 1);
        x.told(1, "entry", 1, 1, 0, 0);
        x.told(-3, "entry", 1, -1, 0, 0);
    }

    private static void spentSectors(Said said) {
        // 10 ORBITS.
        Run x = said.chain(8, true, 2, 1);
        for (int sign = -1; sign <= 1; sign += 2) {
            x.told(10, "size", 4, sign);
            x.told(10, "above", 4, sign, -50);
        }
        x = said.chain(6, false, 2, 1);
        for (int sign = -1; sign <= 1; sign += 2) {
            x.told(10, "size", 3, sign);
            x.told(10, "above", 3, sign, -50);
        }
        // 9 and 12 ORBITS: there is no SECTOR of 11.
        x = said.chain(7, false, 2, 1);
        x.told(9, "size", 2, -1);
        x.told(9, "above", 2, -1, -50);
        x.told(12, "size", 2, 1);
        x.refused(SPENT, "above", 2, 1, -50);
        x = said.chain(8, false, 2, 1);
        x.told(12, "size", 2, -1);
        x.refused(SPENT, "above", 2, -1, -50);
        x.told(38, "size", 4, 1);
        x.refused(SPENT, "above", 4, 1, -50);
        x.told(4, "above", 1, 1, -50);
    }

    private static void tables(Said said) {
        // Three OPEN ones, one UP: the ORBITS are 001 with 100, and 010.
        Run x = said.chain(3, false, 2, 1);
        long[][] table = {{0, 2}, {4, -2}};
        for (int i = 0; i < 2; i++) {
            for (int j = 0; j < 2; j++) {
                x.told(table[i][j], "entry", 1, 1, i, j);
            }
        }
        // A RING of 2 has its PAIR twice.
        for (int e = 1; e <= 4; e++) {
            for (int d = -2; d <= 2; d++) {
                Run two = said.chain(2, true, e, d);
                two.told(2 * e - 2 * d, "entry", 1, 1, 0, 0);
                two.told(-2 * e - 2 * d, "entry", 1, -1, 0, 0);
                two.told(2 * d, "entry", 0, 1, 0, 0);
                two.told(2 * d, "entry", 2, 1, 0, 0);
            }
        }
    }

    private static void polynomials(Said said) {
        Run x = said.chain(3, false, 2, 1);
        x.told(-8, "poly", 1, 1, 0);
        x.told(2, "poly", 1, 1, 1);
        x.told(1, "poly", 1, 1, 2);
        // x to the size: of no ORBITS, of one, of ten.
        x.told(1, "poly", 0, -1, 0);
        x.told(1, "poly", 0, 1, 1);
        x.told(-2, "poly", 0, 1, 0);
        x = said.chain(8, true, 4, -2);
        x.told(1, "poly", 4, 1, 10);
        x.told(1, "poly", 4, -1, 10);
        // The coefficient below the highest is the diagonal taken off.
        long diagonal = 0;
        MagnetRows like = new MagnetRows();
        like.chain(8, true, 4, -2);
        for (int i = 0; i < 10; i++) {
            diagonal += like.entry(4, 1, i, i);
        }
        x.told(-diagonal, "poly", 4, 1, 9);
    }

    private static void ownNumbers(Said said) {
        // x (x + 4 d): with d 0 it is 0 twice.
        Run x = said.chain(4, true, 3, 0);
        x.told(0, "poly", 2, -1, 0);
        x.told(0, "poly", 2, -1, 1);
        x.told(1, "poly", 2, -1, 2);
        x.told(2, "often", 2, -1, 0);
        x.told(2, "whole", 2, -1);
        x.told(2, "above", 2, -1, -1);
        x.told(0, "above", 2, -1, 0);
        x = said.chain(4, true, 3, 1);
        x.told(1, "often", 2, -1, 0);
        x.told(1, "often", 2, -1, -4);
        x.told(2, "whole", 2, -1);
        x.told(1, "above", 2, -1, -4);
        x.told(2, "above", 2, -1, -5);
    }

    private static void powerSums(Said said) {
        // x x - x - 1.
        Run x = said.chain(4, false, 1, 0);
        long[] sums = {1, 3, 4, 7};
        for (int n = 1; n <= 4; n++) {
            x.told(sums[n - 1], "power", 1, 1, n);
            x.told(n % 2 == 1 ? -sums[n - 1] : sums[n - 1], "power", 1, -1, n);
        }
        x.limits(LOST, 1, 4, 2, "power", 1, 1, 1);
    }

    private static void powerSumsOfAll(Said said) {
        Run x = said.chain(4, false, 1, 0);
        long[] four = {0, 6, 0, 14};
        for (int n = 1; n <= 4; n++) {
            x.told(four[n - 1], "powerOf", 1, n);
        }
        // Of an odd RING there are OWN NUMBERS of M that no SECTOR has: 4, and -2 twice.
        x = said.chain(3, true, 2, 0);
        x.told(4, "power", 1, 1, 1);
        long[] three = {0, 24, 48, 288};
        for (int n = 1; n <= 4; n++) {
            x.told(three[n - 1], "powerOf", 1, n);
        }
        x.limits(LOST, 1, 4, 1, "powerOf", 1, 1);
        // It is told where SECTORS are SPENT: of 70 STATES.
        for (int kind = 0; kind < 2; kind++) {
            x = said.chain(8, kind == 0, 4, -2);
            long[] sums = tracesOf(kind == 0);
            for (int n = 1; n <= 4; n++) {
                x.told(sums[n - 1], "powerOf", 4, n);
            }
        }
    }

    /** H of 8 PLACES, e 4, d -2, of the STATES with 4 UP, done 1 .. 4 times: the sum of each STATE's entry at itself. */
    private static long[] tracesOf(boolean ring) {
        int[] states = IntStream.range(0, 256).filter(state -> Integer.bitCount(state) == 4).toArray();
        int size = states.length;
        long[][] h = new long[size][size];
        for (int i = 0; i < size; i++) {
            MagnetRows x = new MagnetRows();
            x.chain(8, ring, 4, -2);
            for (int j = 0; j < size; j++) {
                h[i][j] = x.act(states[j], states[i]);
            }
        }
        long[][] power = h;
        long[] sums = new long[4];
        for (int n = 0; n < 4; n++) {
            for (int i = 0; i < size; i++) {
                sums[n] += power[i][i];
            }
            power = times(power, h);
        }
        return sums;
    }

    private static long[][] times(long[][] left, long[][] right) {
        int size = left.length;
        long[][] product = new long[size][size];
        for (int i = 0; i < size; i++) {
            for (int j = 0; j < size; j++) {
                for (int k = 0; k < size; k++) {
                    product[i][j] += left[i][k] * right[k][j];
                }
            }
        }
        return product;
    }

    /** ITS TABLE times v is c times v, of every REST there is. */
    private static void rests(Said said) {
        everyRest(said, (x, m, sign, c) -> {
            int size = x.size(m, sign);
            for (int i = 0; i < size; i++) {
                long sum = 0;
                for (int j = 0; j < size; j++) {
                    sum += x.entry(m, sign, i, j) * x.rest(m, sign, c, j);
                }
                said.due("ITS TABLE times v", sum, c * x.rest(m, sign, c, i));
            }
        });
    }

    private static void leastRests(Said said) {
        everyRest(said, (x, m, sign, c) -> {
            int size = x.size(m, sign);
            long divisor = 0;
            long first = 0;
            for (int i = 0; i < size; i++) {
                long v = x.rest(m, sign, c, i);
                divisor = divisorOf(divisor, Math.abs(v));
                first = first == 0 ? v : first;
            }
            said.due("the common divisor", divisor, 1);
            said.holds("the first that is not 0 is above 0", first > 0);
        });
        // The first is 0; the first is above 0 and another below.
        Run x = said.chain(4, true, 3, 1);
        x.told(0, "rest", 2, -1, -4, 0);
        x.told(1, "rest", 2, -1, -4, 1);
        x.told(1, "rest", 2, -1, 0, 0);
        x.told(0, "rest", 2, -1, 0, 1);
        x = said.chain(3, false, 2, 1);
        x.told(1, "rest", 1, 1, -4, 0);
        x.told(-2, "rest", 1, 1, -4, 1);
    }

    private static long divisorOf(long a, long b) {
        return b == 0 ? a : divisorOf(b, a % b);
    }

    /** No chain that can be told has a REST with a number above 7: each one is answered. */
    private static void noRestIsSpent(Said said) {
        long[] largest = {0};
        everyRest(said, (x, m, sign, c) -> {
            int size = x.size(m, sign);
            for (int i = 0; i < size; i++) {
                long v = x.rest(m, sign, c, i);
                said.holds("a REST is told", v != LOST);
                largest[0] = Math.max(largest[0], Math.abs(v));
            }
        });
        said.due("the largest number of any REST", largest[0], 7);
    }

    private interface Rest {
        void look(MagnetRows x, int m, int sign, int c);
    }

    private static void everyRest(Said said, Rest rest) {
        int found = 0;
        for (int n = 2; n <= 8; n++) {
            for (int chain = 0; chain < 40; chain++) {
                boolean ring = chain % 2 == 0;
                int e = 1 + chain / 2 % 4;
                int d = chain / 8 - 2;
                for (int m = 0; m <= n; m++) {
                    for (int sign = -1; sign <= 1; sign += 2) {
                        found += restsOf(new int[] {n, e, d, m, sign}, ring, rest);
                    }
                }
            }
        }
        said.holds("RESTS were found", found > 1000);
    }

    /** Of one SECTOR: N, e, d, M, SIGN. */
    private static int restsOf(int[] told, boolean ring, Rest rest) {
        MagnetRows asked = new MagnetRows();
        asked.chain(told[0], ring, told[1], told[2]);
        int found = 0;
        for (int c = -50; c <= 50; c++) {
            if (asked.often(told[3], told[4], c) == 1) {
                MagnetRows x = new MagnetRows();
                x.chain(told[0], ring, told[1], told[2]);
                rest.look(x, told[3], told[4], c);
                found++;
            }
        }
        return found;
    }

    private static void shares(Said said) {
        // Of SIGN -1 the SIGNS fall out of the squares: 0011 and its like, by turns alike and unlike at 0 and 1.
        Run x = said.chain(4, true, 3, 1);
        x.told(0, "seen", 2, -1, 0, 0, 1, 0);
        x.told(1, "seen", 2, -1, 0, 0, 1, 1);
        x.told(-1, "seen", 2, -1, 0, 0, 2, 0);
        x.told(1, "seen", 2, -1, 0, 0, 2, 1);
        // Of 0101 and 1010 alone.
        x.told(-1, "seen", 2, -1, -4, 0, 1, 0);
        x.told(1, "seen", 2, -1, -4, 0, 2, 0);
    }

    private static void seens(Said said) {
        // REST at -4 is (1, -2): squares 1, 1 and 4.
        Run x = said.chain(3, false, 2, 1);
        long[][] want = {{0, 1, -2, 3}, {1, 0, -2, 3}, {1, 2, -2, 3}, {0, 2, 1, 3}, {2, 0, 1, 3}};
        for (long[] w : want) {
            x.told(w[2], "seen", 1, 1, -4, (int) w[0], (int) w[1], 0);
            x.told(w[3], "seen", 1, 1, -4, (int) w[0], (int) w[1], 1);
        }
        // A PLACE is alike to itself.
        for (int place = 0; place < 3; place++) {
            x.told(1, "seen", 1, 1, -4, place, place, 0);
            x.told(1, "seen", 1, 1, -4, place, place, 1);
        }
    }

    // ---- promise 1

    private static void newChain(Said said) {
        Run x = said.run();
        long[] many = {6, 1, 2, 101, 6, 0, 0, 0};
        for (int what = 0; what < 8; what++) {
            x.told(many[what], "many", what);
        }
        x.told(2, "act", 32, 1);
        x.told(-6, "act", 21, 21);
        x.told(1, "turned", 32);
        x.refused(OUTSIDE, "turned", 64);
        x.refused(STATE, "undo");
        x.refused(STATE, "redo");
        x.told(0, "trace");
        x.told(0, "size", 0, -1);
    }

    private static void newParts(Said said) {
        Run x = said.run();
        x.refused(LOST, "weight", 0, 0);
        x.refused(UNKNOWN, "walls", 0, 1);
        x.told(0, "many", 5);
        for (int k = 0; k < 4; k++) {
            x.told(0, "lose", k);
            x.faulted(1, "put", k, 0, 0);
            x.faulted(1, "cell", k, 0, 0);
        }
        x = said.run();
        x.told(0, "trace");
        x.due(0, "fault");
    }

    private static void newSums(Said said) {
        Run x = said.run();
        for (int k = 0; k < 4; k++) {
            x.told(0, "words", k);
            x.refused(LOST, "word", k, 0, 0);
            x.told(1, "kept", k);
            x.told(0, "bracket", k, 3 - k);
        }
    }

    // ---- promises 2 to 4

    private static void chainBecomes(Said said) {
        for (int n = 2; n <= 8; n++) {
            for (int e = 1; e <= 4; e++) {
                for (int d = -2; d <= 2; d++) {
                    for (int kind = 0; kind < 2; kind++) {
                        Run x = said.chain(n, kind == 1, e, d);
                        long[] many = {n, kind, e, 100 + d, n - 1 + kind, 0, 1, 0};
                        for (int what = 0; what < 8; what++) {
                            x.due(many[what], "many", what);
                        }
                    }
                }
            }
        }
        // The same again is an act, too.
        Run x = said.run();
        x.due(64, "chain", 6, true, 2, 1);
        x.told(1, "many", 6);
    }

    private static void chainOutside(Said said) {
        Run x = said.full();
        x.limits(OUTSIDE, 2, 8, 0, "chain", 2, true, 1, -2);
        x.limits(OUTSIDE, 1, 4, 2, "chain", 8, false, 1, 2);
        x.limits(OUTSIDE, -2, 2, 3, "chain", 3, true, 4, 0);
    }

    private static void acts(Said said) {
        Run x = said.chain(8, true, 4, -2);
        x.told(-16, "act", 0, 0);
        x.told(-16, "act", 255, 255);
        x.told(16, "act", 85, 85);
        x.told(4, "act", 128, 1);
        x.told(4, "act", 1, 128);
        x.told(0, "act", 0, 255);
        x.told(0, "act", 85, 170);
        x.told(4, "act", 127, 254);
        // Not of one PAIR: two steps, or another number of UP.
        x.told(0, "act", 1, 4);
        x.told(0, "act", 3, 12);
        x.told(0, "act", 1, 3);
        x.told(0, "act", 0, 3);
        x.told(0, "act", 3, 0);
    }

    private static void actLost(Said said) {
        for (int n = 2; n <= 8; n++) {
            Run x = said.chain(n, true, 1, 1);
            for (int state : new int[] {-1, 1 << n, MIN, MAX}) {
                x.refused(LOST, "act", state, 0);
                x.refused(LOST, "act", 0, state);
                x.refused(LOST, "act", state, state);
            }
            x.told(n, "act", (1 << n) - 1, (1 << n) - 1);
        }
    }

    private static void turnedOnce(Said said) {
        Run x = said.chain(5, true, 1, 1);
        x.told(11, "turned", 21);
        x.told(22, "turned", 11);
        x = said.chain(5, false, 1, 1);
        x.told(21, "turned", 21);
        x.told(26, "turned", 11);
        x.told(11, "turned", 26);
    }

    private static void turnedOutside(Said said) {
        for (int n = 2; n <= 8; n++) {
            for (int kind = 0; kind < 2; kind++) {
                Run x = said.chain(n, kind == 0, 1, 1);
                x.limits(OUTSIDE, 0, (1 << n) - 1, 0, "turned", 0);
            }
        }
    }

    // ---- promises 5 to 15

    /** A SECTOR ahead of other arguments. */
    private static Object[] sector(int m, int sign, Object... more) {
        Object[] given = new Object[2 + more.length];
        given[0] = m;
        given[1] = sign;
        System.arraycopy(more, 0, given, 2, more.length);
        return given;
    }

    /** M is taken from 0 to N, SIGN is 1 or -1; both are refused beyond. */
    private static void sectorLimits(Said said, long refusal, String call, Object... more) {
        for (int n = 2; n <= 6; n += 2) {
            Run x = said.chain(n, true, 2, 1);
            x.limits(refusal, 0, n, 0, call, sector(0, 1, more));
            x.taken(1, -1, call, sector(n / 2, 1, more));
            for (int sign : NO_SIGNS) {
                x.refused(refusal, call, sector(n / 2, sign, more));
            }
            x.refused(refusal, call, sector(n + 1, 0, more));
        }
    }

    /** SECTORS of 12, 16 and 38 ORBITS are SPENT, those of 9 and 10 are not. */
    private static void spent(Said said, long refusal, String call, Object... more) {
        int[][] sectors = {{7, 2, 1}, {7, 3, -1}, {7, 4, 1}, {8, 2, -1}, {8, 4, 1}, {8, 4, -1}, {8, 6, 1}};
        for (int[] one : sectors) {
            Run x = said.chain(one[0], false, 2, 1);
            x.refused(refusal, call, sector(one[1], one[2], more));
        }
        int[][] others = {{6, 3, 1}, {6, 3, -1}, {7, 2, -1}};
        for (int[] one : others) {
            Run x = said.chain(one[0], false, 2, 1);
            x.taken(1, one[2], call, sector(one[1], 1, more));
        }
    }

    private static void sizes(Said said) {
        long[][] rings = {{1, 1, 1}, {1, 1, 1, 1}, {1, 1, 2, 1, 1}, {1, 1, 2, 2, 1, 1}, {1, 1, 3, 4, 3, 1, 1},
            {1, 1, 3, 5, 5, 3, 1, 1}, {1, 1, 4, 7, 10, 7, 4, 1, 1}};
        long[][] opens = {{1, 1, 1}, {1, 2, 2, 1}, {1, 2, 4, 2, 1}, {1, 3, 6, 6, 3, 1}, {1, 3, 9, 10, 9, 3, 1},
            {1, 4, 12, 19, 19, 12, 4, 1}, {1, 4, 16, 28, 38, 28, 16, 4, 1}};
        for (int n = 2; n <= 8; n++) {
            Run ring = said.chain(n, true, 1, 1);
            Run open = said.chain(n, false, 1, 1);
            for (int m = 0; m <= n; m++) {
                ring.told(rings[n - 2][m], "size", m, 1);
                open.told(opens[n - 2][m], "size", m, 1);
            }
        }
        Run x = said.chain(8, false, 1, 1);
        x.told(32, "size", 4, -1);
        x.told(28, "size", 3, -1);
        x.told(12, "size", 2, -1);
    }

    private static void heads(Said said) {
        Run x = said.chain(8, false, 1, 1);
        // Of a SPENT one, too.
        x.told(15, "head", 4, 1, 0);
        x.told(23, "head", 4, 1, 1);
        x.told(195, "head", 4, 1, 37);
        x.told(15, "head", 4, -1, 0);
        x.told(163, "head", 4, -1, 31);
        x = said.chain(3, false, 1, 1);
        x.told(1, "head", 1, 1, 0);
        x.told(2, "head", 1, 1, 1);
    }

    private static void headUnknown(Said said) {
        Run x = said.chain(8, false, 1, 1);
        x.limits(UNKNOWN, 0, 37, 2, "head", 4, 1, 0);
        x.limits(UNKNOWN, 0, 31, 2, "head", 4, -1, 0);
        x.limits(UNKNOWN, 0, 0, 2, "head", 0, 1, 0);
        // A SECTOR without ORBITS has no HEAD.
        for (int i : new int[] {-1, 0, 1, MIN, MAX}) {
            x.refused(UNKNOWN, "head", 0, -1, i);
        }
    }

    private static void entries(Said said) {
        Run x = said.chain(4, true, 2, 1);
        long[][] plus = {{0, 4}, {8, -4}};
        long[][] minus = {{0, 0}, {0, -4}};
        for (int i = 0; i < 2; i++) {
            for (int j = 0; j < 2; j++) {
                x.told(plus[i][j], "entry", 2, 1, i, j);
                x.told(minus[i][j], "entry", 2, -1, i, j);
            }
        }
    }

    private static void entryUnknown(Said said) {
        Run x = said.chain(4, true, 2, 1);
        x.limits(LOST, 0, 1, 2, "entry", 2, 1, 0, 0);
        x.limits(LOST, 0, 1, 3, "entry", 2, 1, 0, 0);
        x.refused(LOST, "entry", 0, -1, 0, 0);
        x = said.chain(8, true, 2, 1);
        x.limits(LOST, 0, 9, 2, "entry", 4, 1, 0, 9);
        x.limits(LOST, 0, 9, 3, "entry", 4, -1, 9, 0);
    }

    private static void coefficients(Said said) {
        // x (x + 4 d) - 8 e e.
        for (int e = 1; e <= 4; e++) {
            for (int d = -2; d <= 2; d++) {
                Run x = said.chain(4, true, e, d);
                x.told(-8 * e * e, "poly", 2, 1, 0);
                x.told(4 * d, "poly", 2, 1, 1);
                x.told(1, "poly", 2, 1, 2);
            }
        }
    }

    private static void polyUnknown(Said said) {
        Run x = said.chain(4, true, 2, 1);
        x.limits(LOST, 0, 2, 2, "poly", 2, 1, 0);
        x.limits(LOST, 0, 1, 2, "poly", 0, 1, 0);
        x.limits(LOST, 0, 0, 2, "poly", 0, -1, 0);
        x = said.chain(8, true, 2, 1);
        x.limits(LOST, 0, 10, 2, "poly", 4, 1, 0);
    }

    private static void above(Said said) {
        // None UP: the one OWN NUMBER is d for each PAIR, 16 and -16 at most.
        for (int d = -2; d <= 2; d++) {
            Run x = said.chain(8, true, 1, d);
            x.told(1, "above", 0, 1, 8 * d - 1);
            x.told(0, "above", 0, 1, 8 * d);
            x.told(0, "above", 0, 1, 8 * d + 1);
            x.told(1, "above", 0, 1, -50);
            x.told(0, "above", 0, 1, 50);
            x.told(0, "above", 0, -1, -50);
        }
        // Two that are not whole: 1.6.. and -0.6..
        Run x = said.chain(4, false, 1, 0);
        x.told(2, "above", 1, 1, -1);
        x.told(1, "above", 1, 1, 0);
        x.told(1, "above", 1, 1, 1);
        x.told(0, "above", 1, 1, 2);
        x = said.chain(8, true, 4, 2);
        x.told(10, "above", 4, 1, -50);
        x.told(0, "above", 4, 1, 50);
    }

    private static void numberLimits(Said said, String call) {
        sectorLimits(said, OUTSIDE, call, 0);
        Run x = said.full();
        x.limits(OUTSIDE, -50, 50, 2, call, 2, 1, 0);
        x.limits(OUTSIDE, -50, 50, 2, call, 0, -1, 0);
    }

    private static void often(Said said) {
        for (int d = -2; d <= 2; d++) {
            Run x = said.chain(8, true, 1, d);
            for (int c = -50; c <= 50; c += c == -50 || c == 49 ? 1 : 3) {
                x.told(c == 8 * d ? 1 : 0, "often", 0, 1, c);
            }
            x.told(1, "often", 0, 1, 8 * d);
            x.told(0, "often", 0, -1, 8 * d);
        }
        Run x = said.chain(4, true, 1, 0);
        x.told(2, "often", 2, -1, 0);
        x.told(0, "often", 2, -1, 1);
        x.told(0, "often", 2, -1, -1);
        x.told(0, "often", 2, -1, 50);
        x.told(0, "often", 2, -1, -50);
    }

    private static void whole(Said said) {
        Run x = said.chain(4, true, 1, 0);
        // 0 twice counts twice.
        x.told(2, "whole", 2, -1);
        // -2 d and 2 times the root of d d + 2 e e: not whole.
        x.told(0, "whole", 2, 1);
        x.told(0, "whole", 0, -1);
        x.told(1, "whole", 0, 1);
        x = said.chain(4, true, 2, 1);
        x.told(2, "whole", 2, 1);
        x = said.chain(4, false, 1, 0);
        x.told(0, "whole", 1, 1);
        x.told(1, "whole", 0, 1);
        // Far from 0.
        x = said.chain(8, true, 4, 2);
        x.told(1, "whole", 0, 1);
        x.told(1, "whole", 1, 1);
        x.told(1, "often", 1, 1, 16);
        x.told(1, "often", 1, -1, 0);
        x = said.chain(8, true, 4, -2);
        x.told(1, "often", 0, 1, -16);
        x.told(1, "often", 1, -1, -16);
        x.told(1, "whole", 1, -1);
        // No whole OWN NUMBER is larger than this one.
        x = said.chain(7, true, 4, -1);
        x.told(5, "whole", 3, 1);
        x.told(1, "often", 3, 1, 21);
        x.told(1, "above", 3, 1, 20);
        x.told(0, "above", 3, 1, 21);
    }

    private static void power(Said said) {
        Run x = said.chain(2, true, 4, -2);
        // 12 alone, -4 alone, none.
        long[] twelve = {12, 144, 1728, 20736};
        long[] four = {-4, 16, -64, 256};
        for (int n = 1; n <= 4; n++) {
            x.told(twelve[n - 1], "power", 1, 1, n);
            x.told(four[n - 1], "power", 1, -1, n);
            x.told(0, "power", 0, -1, n);
        }
        // Fewer ORBITS than n, and as many: 4 and -8.
        x = said.chain(4, true, 2, 1);
        long[] two = {-4, 80, -448, 4352};
        for (int n = 1; n <= 4; n++) {
            x.told(two[n - 1], "power", 2, 1, n);
        }
    }

    private static void powerOutside(Said said) {
        sectorLimits(said, LOST, "power", 1);
        Run x = said.full();
        x.limits(LOST, 1, 4, 2, "power", 2, 1, 1);
        x.limits(LOST, 1, 4, 2, "power", 0, -1, 1);
    }

    private static void powerOf(Said said) {
        Run x = said.chain(2, true, 4, -2);
        // 12 and -4; none UP: -4.
        long[] both = {8, 160, 1664, 20992};
        long[] four = {-4, 16, -64, 256};
        for (int n = 1; n <= 4; n++) {
            x.told(both[n - 1], "powerOf", 1, n);
            x.told(four[n - 1], "powerOf", 0, n);
            x.told(four[n - 1], "powerOf", 2, n);
        }
    }

    private static void powerOfOutside(Said said) {
        for (int n = 2; n <= 8; n++) {
            Run x = said.chain(n, n % 2 == 0, 1, 1);
            x.limits(LOST, 0, n, 0, "powerOf", 0, 1);
            x.limits(LOST, 1, 4, 1, "powerOf", n, 1);
        }
    }

    private static void rest(Said said) {
        // Of one ORBIT it is 1, at d for each PAIR.
        for (int d = -2; d <= 2; d++) {
            Run x = said.chain(8, true, 1, d);
            x.told(1, "rest", 0, 1, 8 * d, 0);
            x.told(1, "rest", 8, 1, 8 * d, 0);
        }
        Run x = said.chain(4, true, 2, 1);
        x.told(1, "rest", 2, 1, 4, 0);
        x.told(1, "rest", 2, 1, 4, 1);
        x.told(1, "rest", 2, 1, -8, 0);
        x.told(-2, "rest", 2, 1, -8, 1);
        x.refused(LOST, "rest", 2, 1, 50, 0);
        x.refused(LOST, "rest", 2, 1, -50, 0);
    }

    private static void restOutside(Said said) {
        Run x = said.chain(4, true, 2, 1);
        x.told(1, "rest", 0, 1, 4, 0);
        x.told(1, "rest", 4, 1, 4, 0);
        for (int m : new int[] {-1, 5, MIN, MAX}) {
            x.refused(LOST, "rest", m, 1, 4, 0);
        }
        for (int sign : NO_SIGNS) {
            x.refused(LOST, "rest", 0, sign, 4, 0);
        }
        for (int c : new int[] {-51, 51, MIN, MAX}) {
            x.refused(LOST, "rest", 0, 1, c, 0);
        }
        noSignHasOwnNumbers(said, "rest", 0);
    }

    /** Whatever a wrong SIGN might be taken for, at no c there is a REST. */
    private static void noSignHasOwnNumbers(Said said, String call, Object... more) {
        for (int sign : NO_SIGNS) {
            Run x = said.chain(4, true, 2, 1);
            for (int c = -50; c <= 50; c++) {
                x.due(LOST, call, sector(1, sign, at(c, more)));
            }
        }
        Run x = said.chain(4, true, 2, 1);
        x.taken(1, 1, call, sector(1, 1, at(4, more)));
        x.taken(1, -1, call, sector(1, -1, at(-4, more)));
    }

    /** A number c ahead of other arguments. */
    private static Object[] at(int c, Object... more) {
        Object[] given = new Object[1 + more.length];
        given[0] = c;
        System.arraycopy(more, 0, given, 1, more.length);
        return given;
    }

    /** Where e is 2 d, all numbers alike are a REST at d for each PAIR, of each M. */
    private static void restSpent(Said said) {
        for (int n = 6; n <= 8; n++) {
            Run x = said.chain(n, false, 2, 1);
            for (int m = 0; m <= n; m++) {
                boolean spent = n > 6 && m > 1 && m < n - 1;
                x.told(spent ? LOST : 1, "rest", m, 1, n - 1, 0);
                x.told(spent ? LOST : 1, "seen", m, 1, n - 1, 0, 0, 1);
            }
        }
    }

    private static void restNotJustOnce(Said said) {
        // Not one: beside it, and of no ORBITS.
        Run x = said.chain(4, true, 2, 1);
        x.refused(LOST, "rest", 0, 1, 3, 0);
        x.refused(LOST, "rest", 0, 1, 5, 0);
        x.refused(LOST, "rest", 0, -1, 4, 0);
        x.refused(LOST, "rest", 0, -1, 0, 0);
        // Twice.
        x = said.chain(4, true, 2, 0);
        x.told(2, "often", 2, -1, 0);
        x.refused(LOST, "rest", 2, -1, 0, 0);
        x.refused(LOST, "rest", 2, -1, 0, 1);
        // Just once.
        x = said.chain(4, true, 2, 2);
        x.told(1, "rest", 2, -1, 0, 0);
        // Of one SECTOR, of one CHAIN it is one, of another it is not.
        x = said.chain(3, false, 2, 1);
        x.told(1, "rest", 1, 1, 2, 1);
        x.refused(LOST, "rest", 1, -1, 2, 0);
        x.told(1, "rest", 1, 1, 2, 1);
        x.due(8, "chain", 3, false, 3, 1);
        x.refused(LOST, "rest", 1, 1, 2, 1);
        x.made("undo");
        x.told(1, "rest", 1, 1, 2, 1);
    }

    private static void restUnknown(Said said) {
        Run x = said.chain(4, true, 2, 1);
        x.limits(LOST, 0, 1, 3, "rest", 2, 1, 4, 0);
        x.limits(LOST, 0, 0, 3, "rest", 0, 1, 4, 0);
        x = said.chain(8, true, 2, 1);
        // All alike is a REST of ten ORBITS.
        x.limits(LOST, 0, 9, 3, "rest", 4, 1, 8, 0);
    }

    private static void seen(Said said) {
        Run x = said.chain(2, true, 3, 1);
        // One of two is UP: unlike.
        x.told(-1, "seen", 1, 1, 4, 0, 1, 0);
        x.told(1, "seen", 1, 1, 4, 0, 1, 1);
        x.told(-1, "seen", 1, -1, -8, 1, 0, 0);
        x.told(1, "seen", 1, -1, -8, 1, 0, 1);
        x.told(1, "seen", 0, 1, 2, 0, 1, 0);
        x.told(1, "seen", 2, 1, 2, 1, 1, 0);
        // Ten ORBITS, all alike: of 70 STATES with 4 of 8 UP two PLACES are alike in 30.
        x = said.chain(8, true, 2, 1);
        for (int place = 1; place < 8; place++) {
            x.told(-1, "seen", 4, 1, 8, 0, place, 0);
            x.told(7, "seen", 4, 1, 8, 0, place, 1);
        }
        // One of four is UP: at two PLACES unlike in half of the STATES: 0 by 4 is 0 by 1.
        x = said.chain(4, true, 2, 1);
        x.told(0, "seen", 1, 1, 4, 0, 3, 0);
        x.told(1, "seen", 1, 1, 4, 0, 3, 1);
    }

    private static void seenAsRest(Said said) {
        Run x = said.chain(4, true, 2, 0);
        x.told(1, "seen", 0, 1, 0, 0, 1, 0);
        for (int m : new int[] {-1, 5, MIN, MAX}) {
            x.refused(LOST, "seen", m, 1, 0, 0, 1, 0);
        }
        for (int sign : NO_SIGNS) {
            x.refused(LOST, "seen", 0, sign, 0, 0, 1, 0);
        }
        for (int c : new int[] {-51, 51, -1, 1, MIN, MAX}) {
            x.refused(LOST, "seen", 0, 1, c, 0, 1, 0);
        }
        noSignHasOwnNumbers(said, "seen", 0, 1, 0);
        // Twice, and of no ORBITS.
        x.refused(LOST, "seen", 2, -1, 0, 0, 1, 0);
        x.refused(LOST, "seen", 0, -1, 0, 0, 1, 0);
        x = said.chain(8, false, 2, 1);
        x.refused(LOST, "seen", 4, 1, 7, 0, 1, 0);
    }

    private static void seenUnknown(Said said) {
        for (int n = 2; n <= 8; n++) {
            Run x = said.chain(n, true, 1, 2);
            x.limits(LOST, 0, n - 1, 3, "seen", 0, 1, 2 * n, 0, 0, 0);
            x.limits(LOST, 0, n - 1, 4, "seen", 0, 1, 2 * n, 0, 0, 1);
        }
    }

    private static void seenWhich(Said said) {
        Run x = said.chain(8, true, 1, 2);
        x.limits(LOST, 0, 1, 5, "seen", 0, 1, 16, 7, 7, 0);
    }
}
