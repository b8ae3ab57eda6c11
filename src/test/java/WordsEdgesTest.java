/** The edges of words: part 3 of the terms, and promises 24 to 32. */
public final class WordsEdgesTest extends Edges {
    private static final int MILLION = 1000000;
    /** Letters 0 nothing, 1 X, 2 Y, 3 Z, as bits. */
    private static final int[] X = {0, 1, 1, 0};
    private static final int[] Z = {0, 0, 1, 1};

    public static void main(String[] args) {
        Said.ask(WordsEdgesTest::tell);
    }

    static void tell(Said said) {
        said.section("Terms");
        said.says("WORDS: each PLACE of 8 has a letter: 0 nothing, 1 X, 2 Y, 3 Z;", WordsEdgesTest::eightPlaces);
        said.says("letters of one PLACE multiply: each with itself is nothing; X Y is i Z, Y Z is i X, Z X is i Y; the"
            + " other way round less i (i i is less 1).", WordsEdgesTest::lettersMultiply);
        said.says("A WORD is told by x (bits of PLACES with X or Y) and z (with Z or Y).", WordsEdgesTest::wordsTold);
        said.says("SUMS 0 .. 3:", WordsEdgesTest::fourSums);
        said.says("WORDS, each with two whole numbers (one, and one times i); WORDS with both 0 are not in it.",
            WordsEdgesTest::bothZero);
        said.says("In order: by x, then by z.", WordsEdgesTest::inOrder);
        said.says("A SUM that would have more than 60 WORDS,", WordsEdgesTest::sixtyWords);
        said.says("or a number above 1000000 in size: SPENT.", WordsEdgesTest::aMillion);
        said.says("THE CHAIN as a SUM: of each PAIR e times X X, e times Y Y, 2 d times Z Z (it is twice H).",
            WordsEdgesTest::chainAsSum);
        said.says("KEPT is a SUM, if the BRACKET (both products, the second taken off) of it and THE CHAIN has no WORD.",
            WordsEdgesTest::keptSums);
        tellPromises(said);
    }

    private static void tellPromises(Said said) {
        said.section("Promise 24: add");
        said.says("A SUM gets so many times a WORD more (re, and im times i): how many WORDS it has then.",
            WordsEdgesTest::add);
        said.says("UNKNOWN;", at -> sumLimits(at, UNKNOWN, 0, "add", 0, 1, 1, 1, 1));
        said.says("OUTSIDE: x, z are not 0 .. 255;", WordsEdgesTest::addOutside);
        said.says("SPENT.", WordsEdgesTest::addSpent);
        said.section("Promise 25: clear");
        said.says("A SUM becomes empty: how many WORDS it had.", WordsEdgesTest::clear);
        said.says("UNKNOWN.", at -> sumLimits(at, UNKNOWN, 0, "clear", 0));
        said.section("Promise 26: asChain");
        said.says("A SUM becomes THE CHAIN: how many WORDS.", WordsEdgesTest::asChain);
        said.says("UNKNOWN.", at -> sumLimits(at, UNKNOWN, 0, "asChain", 0));
        said.section("Promise 27: join");
        said.says("SUM m becomes the product of k and l (way 0),", WordsEdgesTest::product);
        said.says("their BRACKET (1),", WordsEdgesTest::joinBracket);
        said.says("k and l added (2),", WordsEdgesTest::added);
        said.says("l taken off k (3): how many WORDS.", WordsEdgesTest::takenOff);
        said.says("UNKNOWN;", WordsEdgesTest::joinUnknown);
        said.says("OUTSIDE: way;", at -> sums(at).limits(OUTSIDE, 0, 3, 3, "join", 0, 1, 2, 0));
        said.says("SPENT.", WordsEdgesTest::joinSpent);
        said.section("Promise 28: shift");
        said.says("SUM m becomes k with each letter by places further on (of N of THE CHAIN, beyond the last from 0 on;"
            + " by 0 .. 7): how many WORDS.", WordsEdgesTest::shift);
        said.says("UNKNOWN;", WordsEdgesTest::shiftUnknown);
        said.says("OUTSIDE;", at -> sums(at).limits(OUTSIDE, 0, 7, 2, "shift", 0, 1, 0));
        said.says("STATE: a WORD has a letter at a PLACE beyond N.", WordsEdgesTest::shiftState);
        said.section("Promise 29: word");
        said.says("Of a SUM's i-th WORD: 0 x, 1 z, 2 the number, 3 that times i.", WordsEdgesTest::word);
        said.says("LOST: UNKNOWN: SUM, i;", WordsEdgesTest::wordUnknown);
        said.says("OUTSIDE.", at -> sums(at).limits(LOST, 0, 3, 2, "word", 1, 0, 0));
        said.section("Promise 30: words");
        said.says("How many WORDS a SUM has.", WordsEdgesTest::words);
        said.says("UNKNOWN.", at -> sumLimits(at, UNKNOWN, 0, "words", 0));
        said.section("Promise 31: bracket");
        said.says("How many WORDS the BRACKET of two SUMS has (they may be more than 60, their numbers of any size).",
            WordsEdgesTest::bracket);
        said.says("UNKNOWN.", WordsEdgesTest::bracketUnknown);
        said.section("Promise 32: kept");
        said.says("Whether a SUM is KEPT: 1, 0.", WordsEdgesTest::kept);
        said.says("UNKNOWN.", at -> sumLimits(at, UNKNOWN, 0, "kept", 0));
    }

    /** A WORD in each SUM. */
    private static Run sums(Said said) {
        Run x = said.run();
        for (int k = 0; k < 4; k++) {
            x.due(1, "add", k, 1 << k, 3, k + 1, -k);
        }
        return x;
    }

    private static void sumLimits(Said said, long refusal, int at, String call, Object... given) {
        sums(said).limits(refusal, 0, 3, at, call, given);
        said.full().limits(refusal, 0, 3, at, call, given);
    }

    private static void hasWord(Run x, int k, int i, long... want) {
        for (int what = 0; what < 4; what++) {
            x.told(want[what], "word", k, i, what);
        }
    }

    // ---- the terms

    private static void eightPlaces(Said said) {
        Run x = said.run();
        for (int place = 0; place < 8; place++) {
            for (int letter = 0; letter < 4; letter++) {
                x.due(1, "add", 0, X[letter] << place, Z[letter] << place, 1, 0);
                x.due(X[letter] << place, "word", 0, 0, 0);
                x.due(Z[letter] << place, "word", 0, 0, 1);
                x.due(0, "add", 0, X[letter] << place, Z[letter] << place, -1, 0);
            }
        }
        // Y at each PLACE, nothing at each.
        x.due(1, "add", 0, 255, 255, 1, 0);
        x.due(2, "add", 0, 0, 0, 1, 0);
        hasWord(x, 0, 0, 0, 0, 1, 0);
        hasWord(x, 0, 1, 255, 255, 1, 0);
        x.refused(OUTSIDE, "add", 0, 256, 0, 1, 0);
        x.refused(OUTSIDE, "add", 0, 0, 256, 1, 0);
    }

    private static void lettersMultiply(Said said) {
        // Of two letters the one that comes, and i so often.
        int[][] comes = {{0, 1, 2, 3}, {1, 0, 3, 2}, {2, 3, 0, 1}, {3, 2, 1, 0}};
        int[][] turns = {{0, 0, 0, 0}, {0, 0, 1, -1}, {0, -1, 0, 1}, {0, 1, -1, 0}};
        for (int place = 0; place < 8; place++) {
            for (int p = 0; p < 4; p++) {
                for (int q = 0; q < 4; q++) {
                    Run x = said.run();
                    x.due(1, "add", 0, X[p] << place, Z[p] << place, 2, 3);
                    x.due(1, "add", 1, X[q] << place, Z[q] << place, 5, 7);
                    x.due(1, "join", 2, 0, 1, 0);
                    int turn = turns[p][q];
                    x.due(X[comes[p][q]] << place, "word", 2, 0, 0);
                    x.due(Z[comes[p][q]] << place, "word", 2, 0, 1);
                    // 2 and 3 i times 5 and 7 i: -11 and 29 i.
                    x.due(turn == 0 ? -11 : -29 * turn, "word", 2, 0, 2);
                    x.due(turn == 0 ? 29 : -11 * turn, "word", 2, 0, 3);
                    // Two PLACES, both with i or with less i: less 1.
                    int other = (place + 3) % 8;
                    x.due(1, "add", 3, X[p] << other, Z[p] << other, 1, 0);
                    x.due(1, "join", 0, 0, 3, 0);
                    x.due(1, "clear", 3);
                    x.due(1, "add", 3, X[q] << other, Z[q] << other, 1, 0);
                    x.due(1, "join", 1, 1, 3, 0);
                    x.due(1, "join", 2, 0, 1, 0);
                    x.due(turn == 0 ? -11 : 11, "word", 2, 0, 2);
                    x.due(turn == 0 ? 29 : -29, "word", 2, 0, 3);
                }
            }
        }
        // i i is less 1: X X X X X X X X times Y Y Y Y Y Y Y Y; and i Z times i Z.
        Run x = said.run();
        x.due(1, "add", 0, 255, 0, 1, 0);
        x.due(1, "add", 1, 255, 255, 1, 0);
        x.due(1, "join", 2, 0, 1, 0);
        hasWord(x, 2, 0, 0, 255, 1, 0);
        x.due(1, "add", 3, 0, 1, 0, 1);
        x.due(1, "join", 3, 3, 3, 0);
        hasWord(x, 3, 0, 0, 0, -1, 0);
        // X X times Y Y: i i.
        x.made("clear", 0);
        x.made("clear", 1);
        x.due(1, "add", 0, 3, 0, 1, 0);
        x.due(1, "add", 1, 3, 3, 1, 0);
        x.due(1, "join", 2, 0, 1, 0);
        hasWord(x, 2, 0, 0, 3, -1, 0);
    }

    private static void wordsTold(Said said) {
        // X at 0, Y at 3, Z at 7.
        Run x = said.run();
        x.due(1, "add", 0, 1, 0, 1, 0);
        x.due(1, "add", 1, 8, 8, 1, 0);
        x.due(1, "add", 2, 0, 128, 1, 0);
        x.due(1, "join", 3, 0, 1, 0);
        x.due(1, "join", 3, 3, 2, 0);
        hasWord(x, 3, 0, 9, 136, 1, 0);
    }

    private static void fourSums(Said said) {
        Run x = sums(said);
        for (int k = 0; k < 4; k++) {
            hasWord(x, k, 0, 1 << k, 3, k + 1, -k);
        }
        x.limits(UNKNOWN, 0, 3, 0, "words", 0);
        // What becomes of one does not become of the others.
        x.due(1, "clear", 1);
        for (int k = 0; k < 4; k++) {
            x.told(k == 1 ? 0 : 1, "words", k);
        }
    }

    private static void bothZero(Said said) {
        Run x = said.run();
        x.due(0, "add", 0, 1, 1, 0, 0);
        x.due(1, "add", 0, 1, 1, 1, 0);
        x.due(1, "add", 0, 1, 1, 0, 1);
        x.due(1, "add", 0, 1, 1, -1, 0);
        hasWord(x, 0, 0, 1, 1, 0, 1);
        x.due(0, "add", 0, 1, 1, 0, -1);
        x.told(0, "words", 0);
        x.refused(LOST, "word", 0, 0, 0);
        // Added, taken off, multiplied to nothing: (1 + X) (1 - X) is 0.
        x.due(1, "add", 0, 0, 0, 1, 0);
        x.due(2, "add", 0, 1, 0, 1, 0);
        x.due(1, "add", 1, 0, 0, 1, 0);
        x.due(2, "add", 1, 1, 0, -1, 0);
        x.due(0, "join", 2, 0, 1, 0);
        x.due(1, "join", 2, 0, 1, 2);
        hasWord(x, 2, 0, 0, 0, 2, 0);
        x.due(1, "join", 2, 0, 1, 3);
        hasWord(x, 2, 0, 1, 0, 2, 0);
        x.due(0, "join", 2, 0, 0, 3);
        x.due(0, "join", 2, 0, 1, 1);
    }

    private static void inOrder(Said said) {
        int[][] words = {{255, 255}, {0, 255}, {255, 0}, {1, 0}, {0, 1}, {128, 3}, {128, 2}, {2, 128}, {0, 0}};
        int[][] sorted = {{0, 0}, {0, 1}, {0, 255}, {1, 0}, {2, 128}, {128, 2}, {128, 3}, {255, 0}, {255, 255}};
        Run x = said.run();
        for (int i = 0; i < words.length; i++) {
            x.due(i + 1, "add", 0, words[i][0], words[i][1], 1, 0);
        }
        for (int i = 0; i < words.length; i++) {
            x.due(sorted[i][0], "word", 0, i, 0);
            x.due(sorted[i][1], "word", 0, i, 1);
        }
        // Behind each way to a SUM.
        for (int way = 0; way < 4; way++) {
            Run y = said.run();
            y.made("chain", 8, true, 1, 1);
            for (int[] word : words) {
                y.made("add", 0, word[0], word[1], 1, 0);
            }
            y.made("add", 1, 255, 1, 1, 0);
            y.made("add", 1, 0, 128, 1, 0);
            y.made("join", 2, 0, 1, way);
            ascending(said, y, 2);
        }
        Run y = said.run();
        y.made("chain", 8, true, 1, 1);
        for (int[] word : words) {
            y.made("add", 0, word[0], word[1], 1, 0);
        }
        for (int by = 0; by < 8; by++) {
            y.due(9, "shift", 1, 0, by);
            ascending(said, y, 1);
        }
        y.made("asChain", 3);
        ascending(said, y, 3);
    }

    private static void ascending(Said said, Run x, int k) {
        long before = -1;
        int words = (int) x.answer("words", k);
        for (int i = 0; i < words; i++) {
            long now = 256 * x.answer("word", k, i, 0) + x.answer("word", k, i, 1);
            said.holds("a WORD comes behind the one ahead of it", now > before);
            before = now;
        }
    }

    /** So many WORDS without a letter but X. */
    private static Run someWords(Said said, int k, int from, int many) {
        Run x = said.run();
        for (int i = 0; i < many; i++) {
            x.due(i + 1, "add", k, from + i, 0, 1, 0);
        }
        return x;
    }

    private static void sixtyWords(Said said) {
        Run x = someWords(said, 0, 0, 60);
        x.refused(SPENT, "add", 0, 60, 0, 1, 0);
        x.refused(SPENT, "add", 0, 0, 1, 0, 1);
        // More of what it has, and nothing more, is not one more.
        x.due(60, "add", 0, 59, 0, 1, 0);
        x.due(60, "add", 0, 60, 0, 0, 0);
        x.due(59, "add", 0, 0, 0, -1, 0);
        x.due(60, "add", 0, 60, 0, 1, 0);
        x.refused(SPENT, "add", 0, 61, 0, 1, 0);
        // Added, taken off: a WORD that it has, and one that it has not.
        x.due(1, "add", 1, 5, 0, 2, 0);
        x.due(60, "join", 2, 0, 1, 2);
        x.due(60, "join", 2, 0, 1, 3);
        x.due(2, "add", 1, 255, 0, 1, 0);
        x.refused(SPENT, "join", 2, 0, 1, 2);
        x.refused(SPENT, "join", 2, 0, 1, 3);
        x.refused(SPENT, "join", 0, 0, 1, 2);
        sixtyProducts(said);
    }

    /** 20 WORDS by 3 are 60, one more makes them 61; the same of a BRACKET. */
    private static void sixtyProducts(Said said) {
        for (int way = 0; way < 2; way++) {
            Run x = said.run();
            int first = 128 * way;
            for (int i = 0; i < 20; i++) {
                x.due(i + 1, "add", 0, first + 4 * i, 0, 1, 0);
            }
            for (int i = 0; i < 3; i++) {
                x.due(i + 1, "add", 1, i, first, 1, 0);
            }
            x.due(60, "join", 2, 0, 1, way);
            x.due(21, "add", 0, first + 1, 0, 1, 0);
            x.refused(SPENT, "join", 2, 0, 1, way);
            x.told(60, "words", 2);
            if (way == 1) {
                x.told(61, "bracket", 0, 1);
            }
        }
    }

    private static void aMillion(Said said) {
        for (int sign = -1; sign <= 1; sign += 2) {
            Run x = said.run();
            x.refused(SPENT, "add", 0, 0, 0, sign * (MILLION + 1), 0);
            x.refused(SPENT, "add", 0, 0, 0, 0, sign * (MILLION + 1));
            x.due(1, "add", 0, 0, 0, sign * MILLION, sign * MILLION);
            x.refused(SPENT, "add", 0, 0, 0, sign, 0);
            x.refused(SPENT, "add", 0, 0, 0, 0, sign);
            x.due(1, "add", 0, 0, 0, -2 * sign * MILLION, -2 * sign * MILLION);
            hasWord(x, 0, 0, 0, 0, -sign * MILLION, -sign * MILLION);
            // Of a product: 1000 by 1000, 1000 by 1001; the number and that times i.
            for (int part = 0; part < 2; part++) {
                Run y = said.run();
                y.due(1, "add", 0, 1, 0, 1000, 0);
                y.due(1, "add", 1, 0, 2, part == 0 ? 1000 * sign : 0, part == 0 ? 0 : 1000 * sign);
                y.due(1, "join", 2, 0, 1, 0);
                hasWord(y, 2, 0, 1, 2, part == 0 ? MILLION * sign : 0, part == 0 ? 0 : MILLION * sign);
                y.due(1, "add", 0, 1, 0, 1, 0);
                y.refused(SPENT, "join", 2, 0, 1, 0);
            }
        }
        Run x = said.run();
        x.refused(SPENT, "add", 0, 0, 0, MAX, 0);
        x.refused(SPENT, "add", 0, 0, 0, MIN, 0);
        x.refused(SPENT, "add", 0, 0, 0, 0, MAX);
        x.refused(SPENT, "add", 0, 0, 0, 0, MIN);
        x.due(1, "add", 0, 0, 0, -1, -1);
        x.refused(SPENT, "add", 0, 0, 0, MIN, 0);
        x.refused(SPENT, "add", 0, 0, 0, 0, MIN);
    }

    private static void chainAsSum(Said said) {
        for (int e = 1; e <= 4; e++) {
            for (int d = -2; d <= 2; d++) {
                // One PAIR; the same twice; where d is 0 there is no Z Z.
                for (int times = 1; times <= 2; times++) {
                    Run x = said.chain(2, times == 2, e, d);
                    x.due(d == 0 ? 2 : 3, "asChain", 0);
                    if (d != 0) {
                        hasWord(x, 0, 0, 0, 3, 2 * d * times, 0);
                    }
                    hasWord(x, 0, d == 0 ? 0 : 1, 3, 0, e * times, 0);
                    hasWord(x, 0, d == 0 ? 1 : 2, 3, 3, e * times, 0);
                }
            }
        }
        // Around the RING; not of an OPEN one.
        Run x = said.chain(3, true, 1, 1);
        x.due(9, "asChain", 0);
        hasWord(x, 0, 1, 0, 5, 2, 0);
        hasWord(x, 0, 5, 5, 0, 1, 0);
        hasWord(x, 0, 6, 5, 5, 1, 0);
        x = said.chain(3, false, 1, 1);
        x.due(6, "asChain", 0);
        hasWord(x, 0, 1, 0, 6, 2, 0);
        hasWord(x, 0, 4, 6, 0, 1, 0);
        hasWord(x, 0, 5, 6, 6, 1, 0);
    }

    private static void keptSums(Said said) {
        Run x = said.run();
        // An empty SUM, a number, THE CHAIN itself, a letter beyond it.
        x.told(1, "kept", 0);
        x.due(1, "add", 0, 0, 0, 5, -5);
        x.told(1, "kept", 0);
        x.made("asChain", 1);
        x.told(1, "kept", 1);
        x.due(1, "add", 2, 64, 64, 1, 0);
        x.told(1, "kept", 2);
        x.due(1, "add", 3, 32, 0, 1, 0);
        x.told(0, "kept", 3);
        // It hangs on THE CHAIN as it is: of 5 PLACES the sixth is beyond, of 7 the seventh is not.
        x.made("chain", 5, true, 2, 1);
        x.told(1, "kept", 3);
        x.told(0, "kept", 1);
        x.made("chain", 7, true, 2, 1);
        x.told(0, "kept", 2);
        x.made("undo");
        x.told(1, "kept", 2);
    }

    // ---- promises 24 to 28

    private static void add(Said said) {
        Run x = said.run();
        x.due(1, "add", 3, 255, 255, 1, 2);
        x.due(2, "add", 3, 0, 0, -3, 4);
        hasWord(x, 3, 0, 0, 0, -3, 4);
        hasWord(x, 3, 1, 255, 255, 1, 2);
        x.due(2, "add", 3, 255, 255, 10, 20);
        hasWord(x, 3, 1, 255, 255, 11, 22);
        x.due(1, "add", 3, 0, 0, 3, -4);
        x.due(1, "add", 3, 7, 7, 0, 0);
        x.told(5, "many", 6);
    }

    private static void addOutside(Said said) {
        for (int at = 1; at <= 2; at++) {
            said.run().limits(OUTSIDE, 0, 255, at, "add", 0, 0, 0, 1, 0);
            said.full().limits(OUTSIDE, 0, 255, at, "add", 0, 255, 255, 0, 1);
        }
    }

    private static void addSpent(Said said) {
        Run x = someWords(said, 3, 100, 59);
        x.due(60, "add", 3, 0, 0, 0, MILLION);
        x.refused(SPENT, "add", 3, 0, 0, 0, 1);
        x.refused(SPENT, "add", 3, 1, 0, 1, 0);
        x.due(60, "add", 3, 0, 0, 0, -1);
        x.due(60, "add", 3, 0, 0, 0, 1);
    }

    private static void clear(Said said) {
        Run x = someWords(said, 2, 0, 60);
        x.due(60, "clear", 2);
        x.told(0, "words", 2);
        x.told(20, "many", 6);
        x.due(0, "clear", 2);
        x = sums(said);
        x.due(1, "clear", 3);
        x.due(0, "clear", 3);
        x.told(6, "many", 6);
        for (int k = 0; k < 3; k++) {
            x.told(1, "words", k);
        }
    }

    private static void asChain(Said said) {
        for (int n = 2; n <= 8; n++) {
            for (int kind = 0; kind < 2; kind++) {
                // Of a RING of 2 both PAIRS are of the same PLACES.
                int pairs = n - 1 + (n == 2 ? 0 : kind);
                Run x = said.chain(n, kind == 1, 4, 2);
                x.due(3 * pairs, "asChain", 3);
                x.told(3 * pairs, "words", 3);
                x = said.chain(n, kind == 1, 1, 0);
                x.due(2 * pairs, "asChain", 0);
            }
        }
        // What it had is gone.
        Run x = someWords(said, 0, 100, 60);
        x.due(18, "asChain", 0);
        x.due(18, "clear", 0);
    }

    private static void product(Said said) {
        Run x = sums(said);
        x.made("clear", 3);
        // By nothing, by a number, by itself, into itself.
        x.due(0, "join", 2, 0, 3, 0);
        x.due(0, "join", 2, 3, 0, 0);
        x.due(1, "add", 3, 0, 0, 0, 2);
        x.due(1, "join", 2, 0, 3, 0);
        hasWord(x, 2, 0, 1, 3, 0, 2);
        x.due(1, "join", 3, 3, 3, 0);
        hasWord(x, 3, 0, 0, 0, -4, 0);
        // X and Z of 0 are Y of 0: the order counts.
        x = said.run();
        x.due(1, "add", 0, 1, 0, 1, 0);
        x.due(1, "add", 1, 0, 1, 1, 0);
        x.due(1, "join", 2, 0, 1, 0);
        hasWord(x, 2, 0, 1, 1, 0, -1);
        x.due(1, "join", 2, 1, 0, 0);
        hasWord(x, 2, 0, 1, 1, 0, 1);
        // On the way there are numbers above 1000000, at last there are none.
        x = said.run();
        x.due(1, "add", 0, 0, 0, MILLION, 0);
        x.due(2, "add", 0, 1, 0, MILLION, 0);
        x.due(1, "add", 1, 0, 0, 2, 0);
        x.due(2, "add", 1, 1, 0, -1, 0);
        x.due(2, "join", 2, 0, 1, 0);
        hasWord(x, 2, 0, 0, 0, MILLION, 0);
        hasWord(x, 2, 1, 1, 0, MILLION, 0);
    }

    private static void joinBracket(Said said) {
        Run x = said.run();
        x.due(1, "add", 0, 1, 0, 3, 0);
        x.due(1, "add", 1, 1, 1, 1, 0);
        x.due(1, "join", 2, 0, 1, 1);
        hasWord(x, 2, 0, 0, 1, 0, 6);
        x.due(1, "join", 2, 1, 0, 1);
        hasWord(x, 2, 0, 0, 1, 0, -6);
        x.due(0, "join", 2, 0, 0, 1);
        x.due(0, "join", 2, 0, 3, 1);
        // Of other PLACES, and of two PLACES both unlike, nothing is left.
        x.due(1, "add", 3, 0, 2, 1, 0);
        x.due(0, "join", 2, 0, 3, 1);
        x = said.run();
        x.due(1, "add", 0, 3, 0, 1, 0);
        x.due(1, "add", 1, 0, 3, 1, 0);
        x.due(0, "join", 2, 0, 1, 1);
        x.due(1, "join", 2, 0, 1, 0);
    }

    private static void added(Said said) {
        Run x = sums(said);
        x.due(2, "join", 3, 0, 1, 2);
        hasWord(x, 3, 0, 1, 3, 1, 0);
        hasWord(x, 3, 1, 2, 3, 2, -1);
        x.due(1, "join", 0, 0, 0, 2);
        hasWord(x, 0, 0, 1, 3, 2, 0);
        x.made("clear", 2);
        x.due(1, "join", 0, 0, 2, 2);
        hasWord(x, 0, 0, 1, 3, 2, 0);
        x.due(0, "join", 0, 2, 2, 2);
    }

    private static void takenOff(Said said) {
        Run x = sums(said);
        x.due(2, "join", 3, 0, 1, 3);
        hasWord(x, 3, 0, 1, 3, 1, 0);
        hasWord(x, 3, 1, 2, 3, -2, 1);
        x.due(0, "join", 0, 1, 1, 3);
        x.due(1, "join", 0, 0, 1, 3);
        hasWord(x, 0, 0, 2, 3, -2, 1);
    }

    private static void joinUnknown(Said said) {
        for (int at = 0; at < 3; at++) {
            sumLimits(said, UNKNOWN, at, "join", 0, 1, 3, 3);
        }
        sums(said).refused(UNKNOWN, "join", 4, 4, 4, 4);
    }

    private static void joinSpent(Said said) {
        // Of each way, just within and just beyond.
        for (int part = 0; part < 2; part++) {
            int re = 1 - part;
            Run x = said.run();
            x.due(1, "add", 0, 1, 0, re * (MILLION - 1), part * (MILLION - 1));
            x.due(1, "add", 1, 1, 0, re, part);
            x.due(1, "join", 2, 0, 1, 2);
            x.refused(SPENT, "join", 3, 2, 1, 2);
            x.due(1, "join", 2, 2, 1, 3);
            x.made("clear", 2);
            x.due(1, "join", 2, 2, 0, 3);
            x.due(1, "join", 2, 2, 1, 3);
            hasWord(x, 2, 0, 1, 0, -re * MILLION, -part * MILLION);
            x.refused(SPENT, "join", 2, 2, 1, 3);
        }
        for (int half = 500000; half <= 500001; half++) {
            Run x = said.run();
            x.due(1, "add", 0, 1, 0, half, 0);
            x.due(1, "add", 1, 0, 1, 1, 0);
            x.due(1, "join", 2, 0, 1, 0);
            if (half == 500000) {
                x.due(1, "join", 2, 0, 1, 1);
                hasWord(x, 2, 0, 1, 1, 0, -MILLION);
            } else {
                x.refused(SPENT, "join", 2, 0, 1, 1);
                x.refused(SPENT, "join", 0, 1, 0, 1);
            }
        }
    }

    private static void shift(Said said) {
        for (int n = 2; n <= 8; n++) {
            for (int by = 0; by < 8; by++) {
                Run x = said.chain(n, by % 2 == 0, 1, 1);
                for (int place = 0; place < n; place++) {
                    x.due(1, "add", 0, 1 << place, 1 << (n - 1 - place), 1, place);
                    x.due(1, "shift", 1, 0, by);
                    x.due(1 << (place + by) % n, "word", 1, 0, 0);
                    x.due(1 << (n - 1 - place + by) % n, "word", 1, 0, 1);
                    x.due(1, "word", 1, 0, 2);
                    x.due(place, "word", 1, 0, 3);
                    x.due(1, "clear", 0);
                }
            }
        }
        // Of an empty SUM; into itself; of 60 WORDS.
        Run x = sums(said);
        x.made("clear", 3);
        x.due(0, "shift", 2, 3, 7);
        x.due(1, "shift", 0, 0, 5);
        hasWord(x, 0, 0, 32, 33, 1, 0);
        x = said.run();
        for (int i = 0; i < 60; i++) {
            x.due(i + 1, "add", 0, i, 0, i + 1, -i);
        }
        x.due(60, "shift", 0, 0, 1);
        // Of 6 PLACES: twice as much, and the last one's from 0 on, so that 32 .. 59 come between the others.
        for (int i = 0; i < 60; i++) {
            int was = i < 56 ? i % 2 * 32 + i / 2 : i - 28;
            x.due(was < 32 ? 2 * was : 2 * was - 63, "word", 0, i, 0);
            x.due(was + 1, "word", 0, i, 2);
            x.due(-was, "word", 0, i, 3);
        }
    }

    private static void shiftUnknown(Said said) {
        for (int at = 0; at < 2; at++) {
            sums(said).limits(UNKNOWN, 0, 3, at, "shift", 0, 0, 1);
        }
        sums(said).refused(UNKNOWN, "shift", 4, 4, 8);
    }

    private static void shiftState(Said said) {
        for (int n = 2; n <= 7; n++) {
            for (int letter = 1; letter < 4; letter++) {
                Run x = said.chain(n, n % 2 == 0, 1, 1);
                x.due(1, "add", 0, 1, 1, 1, 0);
                x.due(2, "add", 0, X[letter] << n - 1, Z[letter] << n - 1, 1, 0);
                x.taken(2, 1, "shift", 1, 0, 1);
                x.due(1, "add", 1, X[letter] << n, Z[letter] << n, 1, 0);
                x.due(3, "add", 0, X[letter] << 7, Z[letter] << 7, 1, 0);
                for (int by = 0; by < 8; by++) {
                    x.refused(STATE, "shift", 1, 0, by);
                    x.refused(STATE, "shift", 0, 1, by);
                }
                x.refused(OUTSIDE, "shift", 1, 0, 8);
                x.refused(OUTSIDE, "shift", 1, 0, -1);
                // The SUM that it would become may have such a letter.
                x.due(0, "shift", 1, 2, 1);
            }
        }
        // Of 8 PLACES none is beyond.
        Run x = said.chain(8, false, 1, 1);
        x.due(1, "add", 0, 255, 255, 1, 0);
        x.due(1, "shift", 0, 0, 7);
    }

    // ---- promises 29 to 32

    private static void word(Said said) {
        Run x = said.run();
        x.due(1, "add", 0, 255, 254, -MILLION, MILLION);
        hasWord(x, 0, 0, 255, 254, -MILLION, MILLION);
        x.due(2, "add", 0, 255, 255, 0, 1);
        hasWord(x, 0, 1, 255, 255, 0, 1);
    }

    private static void wordUnknown(Said said) {
        sumLimits(said, LOST, 0, "word", 0, 0, 0);
        sums(said).limits(LOST, 0, 0, 1, "word", 3, 0, 3);
        someWords(said, 2, 0, 60).limits(LOST, 0, 59, 1, "word", 2, 0, 0);
        said.run().refused(LOST, "word", 0, 0, 0);
    }

    private static void words(Said said) {
        Run x = someWords(said, 1, 0, 60);
        x.told(60, "words", 1);
        x.told(0, "words", 0);
        x.due(60, "clear", 1);
        x.told(0, "words", 1);
    }

    private static void bracket(Said said) {
        // X of 7 and of others, against Z of 7 and of others: each product is another WORD, where it is not both ways.
        Run x = said.run();
        for (int i = 0; i < 60; i++) {
            x.due(i + 1, "add", 0, 128 + i, 0, MILLION, MILLION);
            x.due(i + 1, "add", 1, 0, 128 + i, MILLION, -MILLION);
        }
        int most = 0;
        for (int i = 0; i < 60; i++) {
            for (int j = 0; j < 60; j++) {
                most += 1 - Integer.bitCount(i & j) % 2;
            }
        }
        said.holds("there are many more than 60", most > 1000);
        x.told(most, "bracket", 0, 1);
        x.told(most, "bracket", 1, 0);
        x.told(0, "bracket", 0, 0);
        x.told(0, "bracket", 0, 3);
        x.told(0, "bracket", 3, 3);
        x.refused(SPENT, "join", 2, 0, 1, 1);
        // 655360 by 655360 would be 0, if it were cut to an int.
        x = said.run();
        x.due(1, "add", 0, 1, 0, 655360, 0);
        x.due(1, "add", 1, 0, 1, 655360, 0);
        x.told(1, "bracket", 0, 1);
        x.refused(SPENT, "join", 2, 0, 1, 1);
        // 60 products of one WORD, of a size that only their sum has.
        x = said.run();
        for (int i = 0; i < 60; i++) {
            x.due(i + 1, "add", 0, 128 + i, 0, MILLION, 0);
            x.due(i + 1, "add", 1, i, 128, MILLION, 0);
        }
        x.told(64, "bracket", 0, 1);
    }

    private static void bracketUnknown(Said said) {
        for (int at = 0; at < 2; at++) {
            sumLimits(said, UNKNOWN, at, "bracket", 0, 0);
        }
    }

    private static void kept(Said said) {
        // How many are UP is kept; at one PLACE it is not.
        for (int n = 2; n <= 8; n++) {
            Run x = said.chain(n, n % 2 == 0, 3, 1);
            for (int place = 0; place < n; place++) {
                x.told(place == 0 ? 1 : 0, "kept", 0);
                x.due(place + 1, "add", 0, 0, 1 << place, 1, 0);
            }
            x.told(1, "kept", 0);
        }
    }
}
