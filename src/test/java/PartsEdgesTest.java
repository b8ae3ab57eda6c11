import java.math.BigInteger;

/** The edges of undo, sheets and parts: part 4 of the terms, and promises 33 to 45. */
public final class PartsEdgesTest extends Edges {
    public static void main(String[] args) {
        Said.ask(PartsEdgesTest::tell);
    }

    static void tell(Said said) {
        said.section("Terms");
        said.says("UNDO: chain(), add(), clear(), asChain(), join(), shift() that are not refused may be undone,",
            PartsEdgesTest::whatMayBeUndone);
        said.says("the latest first, the latest 20 of them:", PartsEdgesTest::latestTwenty);
        said.says("N, RING, e, d, all SUMS become as they were ahead of it; done again they become as they were behind"
            + " it,", PartsEdgesTest::aheadAndBehind);
        said.says("as long as no other such act came.", PartsEdgesTest::noOtherAct);
        said.says("SHEETS 0 .. 3 have nothing (at first),", PartsEdgesTest::fourSheets);
        said.says("or a row of 0 .. 60 numbers (0 at first)", PartsEdgesTest::sixtyNumbers);
        said.says("of a LANE: 0 bytes, 1 shorts, 2 ints; what comes to a cell of it is cut to its LANE.",
            PartsEdgesTest::lanes);
        said.says("TELLING of WEIGHTS by bodies that leave their number in TRACE (an int that wraps, 0 at first, becomes"
            + " 31 times it and the number) as they begin:", PartsEdgesTest::traceWraps);
        said.says("PLAIN (1): its a as it counts.", PartsEdgesTest::tellingPlain);
        said.says("TURNED (2): what PLAIN's gives, and 100.", PartsEdgesTest::tellingTurned);
        said.says("SIGNED (3): what TURNED's gives, and what PLAIN's gives (TURNED's left out).",
            PartsEdgesTest::tellingSigned);
        said.says("NAMED by a lent body (4): its number; SIGNED ones have their own (5): 60.", PartsEdgesTest::named);
        tellPromises(said);
    }

    private static void tellPromises(Said said) {
        said.section("Promise 33: undo");
        said.says("The latest act is undone: how many may be undone then.", PartsEdgesTest::undo);
        said.says("STATE: none.", PartsEdgesTest::undoNone);
        said.section("Promise 34: redo");
        said.says("The act undone latest is done again: how many may be undone then.", PartsEdgesTest::redo);
        said.says("STATE: none.", PartsEdgesTest::redoNone);
        said.section("Promise 35: sheet");
        said.says("A SHEET gets a new row: 1.", PartsEdgesTest::sheet);
        said.says("UNKNOWN;", PartsEdgesTest::sheetUnknown);
        said.says("OUTSIDE: lane, n above 60;", PartsEdgesTest::sheetOutside);
        said.says("SIZE.", PartsEdgesTest::sheetSize);
        said.section("Promise 36: lose");
        said.says("A SHEET has nothing: 1; 0: it had nothing.", PartsEdgesTest::lose);
        said.says("UNKNOWN.", at -> at.full().limits(UNKNOWN, 0, 3, 0, "lose", 0));
        said.section("Promise 37: put");
        said.says("Cell i of a SHEET becomes v: 1.", PartsEdgesTest::put);
        said.says("UNKNOWN;", at -> rows(at, 2, 3).limits(UNKNOWN, 0, 3, 0, "put", 0, 0, 7));
        said.says("NULL;", PartsEdgesTest::putNull);
        said.says("INDEX.", PartsEdgesTest::putIndex);
        said.section("Promise 38: cell");
        said.says("Cell i of what a SHEET has, taken as a row of a LANE.", PartsEdgesTest::cell);
        said.says("LOST: UNKNOWN,", at -> rows(at, 1, 3).limits(LOST, 0, 3, 0, "cell", 0, 0, 1));
        said.says("OUTSIDE: lane;", PartsEdgesTest::cellOutside);
        said.says("FAULTS CAST (nothing is no CAST),", PartsEdgesTest::cellCast);
        said.says("NULL,", PartsEdgesTest::cellNull);
        said.says("INDEX.", PartsEdgesTest::cellIndex);
        said.section("Promise 39: copy");
        said.says("n cells of a SHEET from i on go to another one (perhaps the same) from j on, as they were: n.",
            PartsEdgesTest::copy);
        said.says("UNKNOWN;", PartsEdgesTest::copyUnknown);
        said.says("FAULTS NULL (the first, the other),", PartsEdgesTest::copyNull);
        said.says("CAST (unlike LANES),", PartsEdgesTest::copyCast);
        said.says("INDEX: i, j, n below 0 or beyond.", PartsEdgesTest::copyIndex);
        said.section("Promise 40: tell");
        said.says("TELLING of WEIGHTS.", PartsEdgesTest::tellAll);
        said.says("UNKNOWN.", at -> unknownWeights(at, UNKNOWN, 0, "tell", 0));
        said.section("Promise 41: name");
        said.says("How they are NAMED.", PartsEdgesTest::name);
        said.says("UNKNOWN.", at -> unknownWeights(at, UNKNOWN, 0, "name", 0));
        said.section("Promise 42: as");
        said.says("WEIGHTS, taken as ones of a kind: 1.", PartsEdgesTest::as);
        said.says("UNKNOWN;", at -> unknownWeights(at, UNKNOWN, 0, "as", 0, 0));
        said.says("OUTSIDE;", PartsEdgesTest::asOutside);
        said.says("CAST: they are none (SIGNED ones are TURNED, all are PLAIN).", PartsEdgesTest::asCast);
        said.section("Promise 43: trace");
        said.says("TRACE.", PartsEdgesTest::trace);
        said.section("Promise 44: fault");
        said.says("The FAULT of the latest call that names one:", PartsEdgesTest::fault);
        said.says("0: it came to none, or was refused", PartsEdgesTest::noFault);
        said.says("(0 ahead of any).", PartsEdgesTest::aheadOfAny);
        said.section("Promise 45: many");
        said.says("How many: 0 N, 1 whether it is a RING (1, 0), 2 e, 3 d, 4 PAIRS, 5 WEIGHTS, 6 acts that may be"
            + " undone, 7 done again.", PartsEdgesTest::many);
        said.says("OUTSIDE", at -> at.full().limits(OUTSIDE, 0, 7, 0, "many", 0));
        said.says("(d may be -2: it is told as 100 and d).", PartsEdgesTest::manyOfBent);
    }

    /** All SHEETS have a row of a LANE, its cells 1, 2, 3, .. */
    private static Run rows(Said said, int lane, int cells) {
        Run x = said.run();
        for (int k = 0; k < 4; k++) {
            x.due(1, "sheet", k, lane, cells);
            for (int i = 0; i < cells; i++) {
                x.due(1, "put", k, i, i + 1);
            }
        }
        return x;
    }

    private static void hasRow(Run x, int k, int lane, long... want) {
        for (int i = 0; i < want.length; i++) {
            x.told(want[i], "cell", k, i, lane);
        }
        x.faulted(INDEX, "cell", k, want.length, lane);
    }

    // ---- undo: the terms, promises 33 and 34

    /** One act of each kind, and one that changes nothing. */
    private static final Object[][] ACTS = {
        {"add", 0, 1, 2, 3, 4}, {"chain", 7, false, 3, -1}, {"asChain", 1}, {"join", 2, 0, 1, 0}, {"shift", 3, 0, 3},
        {"clear", 0}, {"chain", 3, true, 1, 0}, {"clear", 0}, {"add", 2, 0, 0, 0, 0}, {"chain", 3, true, 1, 0},
    };

    private static void act(Run x, int number) {
        x.made((String) ACTS[number][0], behind(ACTS[number], 1));
    }

    private static Run behindActs(Said said, int acts) {
        Run x = said.run();
        for (int number = 0; number < acts; number++) {
            act(x, number);
        }
        return x;
    }

    private static void whatMayBeUndone(Said said) {
        Run x = said.run();
        for (int number = 0; number < ACTS.length; number++) {
            x.told(number, "many", 6);
            act(x, number);
        }
        x.told(ACTS.length, "many", 6);
        // Refused ones are none.
        x.refused(OUTSIDE, "chain", 9, true, 1, 1);
        x.refused(SPENT, "add", 0, 0, 0, 1000001, 0);
        x.refused(UNKNOWN, "clear", 4);
        x.refused(UNKNOWN, "asChain", 4);
        x.refused(OUTSIDE, "join", 0, 0, 0, 4);
        x.refused(OUTSIDE, "shift", 0, 0, 8);
        // No other call is one.
        x.made("weights", 2, 1, 2, 3);
        x.made("sheet", 0, 0, 3);
        x.made("put", 0, 0, 1);
        x.made("copy", 0, 0, 0, 1, 1);
        x.made("weightsOf", 0, 0, 0, 0);
        x.made("lose", 0);
        x.made("tell", 0);
        x.made("name", 0);
        x.made("kept", 0);
        x.made("bracket", 0, 1);
        x.told(ACTS.length, "many", 6);
        // And none of them is undone.
        x.due(ACTS.length - 1, "undo");
        x.told(2, "many", 5);
        x.told(((((3 * 31 + 2) * 31 + 1) * 31) + 1) * 31 + 5, "trace");
        x.faulted(NULL, "cell", 0, 0, 0);
    }

    private static void latestTwenty(Said said) {
        Run x = said.run();
        for (int act = 1; act <= 20; act++) {
            x.due(1, "add", 0, 0, 0, 1, 0);
            x.due(act, "many", 6);
        }
        // 20 of 20: back to the very first.
        for (int left = 19; left >= 0; left--) {
            x.due(left, "undo");
            x.due(left == 0 ? LOST : left, "word", 0, 0, 2);
        }
        x.refused(STATE, "undo");
        for (int done = 1; done <= 20; done++) {
            x.due(done, "redo");
            x.due(done, "word", 0, 0, 2);
        }
        x.refused(STATE, "redo");
        // 20 of 21: the first one stays.
        x.due(1, "add", 0, 0, 0, 1, 0);
        x.due(20, "many", 6);
        for (int left = 19; left >= 0; left--) {
            x.due(left, "undo");
            x.due(left + 1, "word", 0, 0, 2);
        }
        x.refused(STATE, "undo");
        x.due(20, "many", 7);
        // From there one act more: one may be undone.
        x.due(1, "clear", 0);
        x.due(1, "many", 6);
        x.due(0, "many", 7);
        x.due(0, "undo");
        x.due(1, "word", 0, 0, 2);
        x.refused(STATE, "undo");
    }

    private static void aheadAndBehind(Said said) {
        for (int acts = 1; acts <= ACTS.length; acts++) {
            Run x = behindActs(said, acts);
            x.due(acts - 1, "undo");
            said.same("as it was ahead of act " + acts, x.moment(), behindActs(said, acts - 1).moment());
            x.due(acts, "redo");
            said.same("as it was behind act " + acts, x.moment(), behindActs(said, acts).moment());
            for (int left = acts - 1; left >= 0; left--) {
                x.due(left, "undo");
                said.same("ahead of act " + (left + 1), x.moment(), behindActs(said, left).moment());
            }
            for (int done = 1; done <= acts; done++) {
                x.due(done, "redo");
                said.same("behind act " + done, x.moment(), behindActs(said, done).moment());
            }
        }
        // N, RING, e and d by themselves, and what hangs on them.
        Run x = said.run();
        x.due(4, "chain", 2, false, 4, -2);
        x.told(4, "act", 1, 2);
        x.told(98, "many", 3);
        x.told(2, "turned", 1);
        x.refused(OUTSIDE, "turned", 4);
        x.due(0, "undo");
        x.told(6, "many", 0);
        x.told(1, "many", 1);
        x.told(2, "many", 2);
        x.told(101, "many", 3);
        x.told(2, "act", 1, 32);
        x.refused(OUTSIDE, "turned", 64);
        x.due(1, "redo");
        x.told(4, "act", 1, 2);
        x.refused(OUTSIDE, "turned", 4);
    }

    private static void noOtherAct(Said said) {
        for (int number = 0; number < ACTS.length; number++) {
            Run x = behindActs(said, ACTS.length);
            x.due(ACTS.length - 1, "undo");
            x.due(ACTS.length - 2, "undo");
            // A refused act is none, nor is another call.
            x.refused(OUTSIDE, "chain", 1, true, 1, 1);
            x.refused(UNKNOWN, "clear", -1);
            x.made("weights", 0, 1, 1, 1);
            x.made("sheet", 0, 0, 1);
            x.told(2, "many", 7);
            x.due(ACTS.length - 1, "redo");
            x.told(1, "many", 7);
            x.due(ACTS.length - 2, "undo");
            // One like what was undone is one, too.
            act(x, number);
            x.told(0, "many", 7);
            x.told(ACTS.length - 1, "many", 6);
            x.refused(STATE, "redo");
        }
    }

    private static void undo(Said said) {
        Run x = said.full();
        x.due(5, "undo");
        x.told(3, "many", 7);
        x.told(5, "many", 6);
        x.due(4, "undo");
        x.told(4, "many", 7);
        x.told(0, "words", 2);
        x.told(0, "words", 3);
    }

    private static void undoNone(Said said) {
        Run x = said.run();
        x.refused(STATE, "undo");
        x.made("clear", 0);
        x.due(0, "undo");
        x.refused(STATE, "undo");
        x.due(1, "redo");
        x.due(0, "undo");
        x.refused(STATE, "undo");
        x = said.run();
        x.made("weights", 0, 1, 1, 1);
        x.made("sheet", 0, 0, 1);
        x.refused(STATE, "undo");
    }

    private static void redo(Said said) {
        Run x = said.full();
        x.due(7, "redo");
        x.told(0, "words", 0);
        x.told(5, "many", 0);
        x.told(1, "many", 7);
        x.due(8, "redo");
        x.told(4, "many", 0);
        x.told(0, "many", 7);
    }

    private static void redoNone(Said said) {
        Run x = said.run();
        x.refused(STATE, "redo");
        x.made("clear", 0);
        x.refused(STATE, "redo");
        x.due(0, "undo");
        x.due(1, "redo");
        x.refused(STATE, "redo");
        x.due(0, "undo");
        x.made("clear", 1);
        x.refused(STATE, "redo");
    }

    // ---- sheets: the terms, promises 35 to 39

    private static void fourSheets(Said said) {
        Run x = said.run();
        for (int k = 0; k < 4; k++) {
            x.faulted(NULL, "put", k, 0, 0);
            x.faulted(NULL, "cell", k, 0, 2);
            x.told(0, "lose", k);
        }
        x.limits(UNKNOWN, 0, 3, 0, "sheet", 0, 0, 1);
        x.limits(UNKNOWN, 0, 3, 0, "lose", 0);
        // Each has a row of its own.
        x = rows(said, 2, 1);
        for (int k = 0; k < 4; k++) {
            x.due(1, "put", k, 0, 10 + k);
        }
        for (int k = 0; k < 4; k++) {
            x.told(10 + k, "cell", k, 0, 2);
        }
    }

    private static void sixtyNumbers(Said said) {
        for (int lane = 0; lane < 3; lane++) {
            Run x = said.run();
            for (int n = 0; n <= 60; n++) {
                x.taken(2, n, "sheet", 0, lane, 0);
            }
            x.refused(OUTSIDE, "sheet", 0, lane, 61);
            x.faulted(SIZE, "sheet", 0, lane, -1);
            // None, one, all of them: each is 0.
            for (int n : new int[] {0, 1, 60}) {
                x.made("sheet", lane, lane, n);
                for (int i = 0; i < n; i++) {
                    x.due(0, "cell", lane, i, lane);
                }
                x.faulted(INDEX, "cell", lane, n, lane);
            }
        }
    }

    private static void lanes(Said said) {
        int[] values = {0, 1, -1, 127, 128, 129, -127, -128, -129, 255, 256, 257, -256, 32767, 32768, -32768, -32769,
            65535, 65536, 65537, -65536, MAX, MIN, MAX - 1, MIN + 1};
        for (int lane = 0; lane < 3; lane++) {
            Run x = rows(said, lane, 3);
            long wide = lane == 0 ? 256 : lane == 1 ? 65536 : 1L << 32;
            for (int v : values) {
                // The one number from -wide / 2 on that differs from v by a multiple of it.
                long cut = Math.floorMod(v + wide / 2, wide) - wide / 2;
                x.due(1, "put", 1, 1, v);
                x.due(cut, "cell", 1, 1, lane);
            }
            x.told(1, "cell", 1, 0, lane);
            x.told(3, "cell", 1, 2, lane);
        }
        Run x = said.run();
        for (int lane : new int[] {-1, 3, MIN, MAX}) {
            x.refused(OUTSIDE, "sheet", 0, lane, 1);
        }
    }

    private static void sheet(Said said) {
        Run x = rows(said, 2, 2);
        // A new row is 0, of its own LANE and length.
        x.due(1, "sheet", 1, 0, 3);
        hasRow(x, 1, 0, 0, 0, 0);
        x.faulted(CAST, "cell", 1, 0, 2);
        x.due(1, "sheet", 1, 0, 3);
        x.due(1, "put", 1, 2, 5);
        x.due(1, "sheet", 1, 0, 3);
        hasRow(x, 1, 0, 0, 0, 0);
        x.due(1, "sheet", 1, 1, 0);
        x.due(0, "fault");
        hasRow(x, 1, 1);
        hasRow(x, 0, 2, 1, 2);
        hasRow(x, 2, 2, 1, 2);
    }

    private static void sheetUnknown(Said said) {
        Run x = said.full();
        x.limits(UNKNOWN, 0, 3, 0, "sheet", 0, 2, 60);
        x.refused(UNKNOWN, "sheet", 4, 3, 61);
        x.refused(UNKNOWN, "sheet", -1, 0, -1);
    }

    private static void sheetOutside(Said said) {
        Run x = said.full();
        x.limits(OUTSIDE, 0, 2, 1, "sheet", 3, 0, 60);
        x.limits(OUTSIDE, 0, 2, 1, "sheet", 0, 0, 0);
        for (int n : new int[] {61, 62, MAX}) {
            for (int lane = 0; lane < 3; lane++) {
                x.refused(OUTSIDE, "sheet", lane, lane, n);
            }
        }
        for (int n = 0; n <= 60; n++) {
            x.taken(2, n, "sheet", 0, n % 3, 0);
        }
    }

    private static void sheetSize(Said said) {
        Run x = said.full();
        for (int n : new int[] {-1, -60, -61, MIN}) {
            for (int k = 0; k < 4; k++) {
                x.faulted(SIZE, "sheet", k, 1, n);
            }
        }
        x.refused(OUTSIDE, "sheet", 0, 3, -1);
        x.refused(OUTSIDE, "sheet", 0, -1, -1);
    }

    private static void lose(Said said) {
        Run x = rows(said, 1, 2);
        x.due(1, "lose", 2);
        x.told(0, "lose", 2);
        x.faulted(NULL, "put", 2, 0, 0);
        hasRow(x, 1, 1, 1, 2);
        // A row of none is a row.
        x.due(1, "sheet", 2, 0, 0);
        x.due(1, "lose", 2);
        x.told(0, "lose", 2);
        x.due(1, "sheet", 2, 2, 1);
        hasRow(x, 2, 2, 0);
    }

    private static void put(Said said) {
        Run x = rows(said, 2, 60);
        // The first, the last; the others stay.
        x.due(1, "put", 1, 0, MIN);
        x.due(1, "put", 1, 59, MAX);
        x.due(MIN, "cell", 1, 0, 2);
        x.due(2, "cell", 1, 1, 2);
        x.due(59, "cell", 1, 58, 2);
        x.due(MAX, "cell", 1, 59, 2);
        x.due(1, "cell", 0, 0, 2);
        x.due(60, "cell", 2, 59, 2);
        x.due(0, "fault");
    }

    private static void putNull(Said said) {
        Run x = said.run();
        for (int i : new int[] {0, -1, 60, MIN, MAX}) {
            x.faulted(NULL, "put", 3, i, 1);
        }
        x.made("sheet", 3, 0, 1);
        x.made("lose", 3);
        x.faulted(NULL, "put", 3, 0, 1);
    }

    private static void putIndex(Said said) {
        Run x = rows(said, 0, 3);
        for (int i : new int[] {-1, 3, 4, 59, MIN, MAX}) {
            x.faulted(INDEX, "put", 0, i, 9);
        }
        x.taken(1, 0, "put", 0, 0, 9);
        x.taken(1, 2, "put", 0, 0, 9);
        x.made("sheet", 1, 2, 0);
        x.faulted(INDEX, "put", 1, 0, 9);
        x.made("sheet", 1, 2, 60);
        x.taken(1, 59, "put", 1, 0, 9);
        x.faulted(INDEX, "put", 1, 60, 9);
    }

    private static void cell(Said said) {
        for (int lane = 0; lane < 3; lane++) {
            Run x = rows(said, lane, 3);
            hasRow(x, 3, lane, 1, 2, 3);
        }
        Run x = said.run();
        x.due(1, "sheet", 0, 2, 60);
        x.told(0, "cell", 0, 59, 2);
        x.due(1, "put", 0, 59, MIN);
        x.told(MIN, "cell", 0, 59, 2);
    }

    private static void cellOutside(Said said) {
        Run x = rows(said, 1, 3);
        for (int lane : new int[] {-1, 3, MIN, MAX}) {
            x.refused(LOST, "cell", 0, 0, lane);
            x.refused(LOST, "cell", 0, -1, lane);
        }
        // Ahead of NULL.
        x.made("lose", 0);
        x.refused(LOST, "cell", 0, 0, 3);
        x.refused(LOST, "cell", 4, 0, 1);
    }

    private static void cellCast(Said said) {
        for (int lane = 0; lane < 3; lane++) {
            Run x = rows(said, lane, 3);
            for (int other = 0; other < 3; other++) {
                if (other != lane) {
                    x.faulted(CAST, "cell", 0, 0, other);
                    x.faulted(CAST, "cell", 0, 3, other);
                    x.faulted(CAST, "cell", 0, -1, other);
                }
            }
            // Of a row of none it is one, of nothing it is none.
            x.made("sheet", 0, lane, 0);
            x.faulted(CAST, "cell", 0, 0, (lane + 1) % 3);
            x.made("lose", 0);
            x.faulted(NULL, "cell", 0, 0, (lane + 1) % 3);
        }
    }

    private static void cellNull(Said said) {
        Run x = said.run();
        for (int lane = 0; lane < 3; lane++) {
            x.faulted(NULL, "cell", lane, 0, lane);
            x.faulted(NULL, "cell", 3, -1, lane);
        }
    }

    private static void cellIndex(Said said) {
        Run x = rows(said, 2, 3);
        for (int i : new int[] {-1, 3, 4, MIN, MAX}) {
            x.faulted(INDEX, "cell", 1, i, 2);
        }
        x.told(1, "cell", 1, 0, 2);
        x.told(3, "cell", 1, 2, 2);
        x.made("sheet", 1, 2, 0);
        x.faulted(INDEX, "cell", 1, 0, 2);
        x.made("sheet", 1, 2, 60);
        x.told(0, "cell", 1, 59, 2);
        x.faulted(INDEX, "cell", 1, 60, 2);
    }

    private static void copy(Said said) {
        Run x = rows(said, 1, 5);
        x.made("sheet", 1, 1, 3);
        x.due(3, "copy", 0, 2, 1, 0, 3);
        hasRow(x, 1, 1, 3, 4, 5);
        hasRow(x, 0, 1, 1, 2, 3, 4, 5);
        x.due(1, "copy", 0, 0, 1, 2, 1);
        hasRow(x, 1, 1, 3, 4, 1);
        // The same one: onward and back, as they were.
        x = rows(said, 0, 5);
        x.due(4, "copy", 0, 0, 0, 1, 4);
        hasRow(x, 0, 0, 1, 1, 2, 3, 4);
        x.due(4, "copy", 1, 1, 1, 0, 4);
        hasRow(x, 1, 0, 2, 3, 4, 5, 5);
        x.told(5, "copy", 2, 0, 2, 0, 5);
        x.due(0, "fault");
        // All of 60.
        x = said.run();
        x.made("sheet", 0, 2, 60);
        x.made("sheet", 1, 2, 60);
        x.made("put", 0, 0, MIN);
        x.made("put", 0, 59, MAX);
        x.due(60, "copy", 0, 0, 1, 0, 60);
        x.told(MIN, "cell", 1, 0, 2);
        x.told(MAX, "cell", 1, 59, 2);
        // None: at the first, behind the last, of rows of none.
        x.told(0, "copy", 0, 0, 1, 0, 0);
        x.told(0, "copy", 0, 60, 1, 60, 0);
        x.made("sheet", 0, 2, 0);
        x.told(0, "copy", 0, 0, 1, 60, 0);
        x.told(0, "copy", 1, 60, 0, 0, 0);
    }

    private static void copyUnknown(Said said) {
        Run x = rows(said, 0, 3);
        x.limits(UNKNOWN, 0, 3, 0, "copy", 0, 0, 1, 0, 3);
        x.limits(UNKNOWN, 0, 3, 2, "copy", 0, 0, 1, 0, 3);
        x.refused(UNKNOWN, "copy", 4, -1, 4, -1, -1);
        // Ahead of NULL, of either one.
        x.made("lose", 0);
        x.refused(UNKNOWN, "copy", 0, 0, 4, 0, 0);
        x.refused(UNKNOWN, "copy", -1, 0, 0, 0, 0);
    }

    private static void copyNull(Said said) {
        Run x = rows(said, 0, 3);
        x.made("lose", 3);
        x.faulted(NULL, "copy", 3, 0, 0, 0, 0);
        x.faulted(NULL, "copy", 0, 0, 3, 0, 0);
        x.faulted(NULL, "copy", 3, 0, 3, 0, 0);
        x.faulted(NULL, "copy", 3, -1, 0, 9, 9);
        x.faulted(NULL, "copy", 0, -1, 3, 9, 9);
    }

    private static void copyCast(Said said) {
        Run x = said.run();
        for (int k = 0; k < 3; k++) {
            x.made("sheet", k, k, 3);
        }
        for (int k = 0; k < 3; k++) {
            for (int other = 0; other < 3; other++) {
                if (k == other) {
                    x.told(3, "copy", k, 0, other, 0, 3);
                } else {
                    x.faulted(CAST, "copy", k, 0, other, 0, 3);
                    x.faulted(CAST, "copy", k, 0, other, 0, 0);
                    x.faulted(CAST, "copy", k, -1, other, 4, -1);
                }
            }
        }
    }

    private static void copyIndex(Said said) {
        Run x = rows(said, 2, 5);
        x.made("sheet", 1, 2, 3);
        int[][] beyond = {
            {-1, 0, 1}, {0, -1, 1}, {0, 0, -1}, {5, 0, 1}, {0, 3, 1}, {4, 0, 2}, {0, 2, 2}, {0, 0, 4}, {3, 0, 3},
            {0, 1, 3}, {-1, 0, 0}, {0, -1, 0}, {6, 0, 0}, {0, 4, 0}, {MIN, 0, 0}, {0, MIN, 0}, {MAX, 0, 0}, {0, MAX, 0},
            {0, 0, MIN}, {0, 0, MAX}, {1, 0, MAX}, {0, 1, MAX}, {MAX, 0, MAX}, {0, MAX, MAX}, {MAX, 0, 1}, {0, MAX, 1},
            {MIN, MIN, MIN}, {5, 3, -1}, {5, 3, MIN},
        };
        for (int[] w : beyond) {
            x.faulted(INDEX, "copy", 0, w[0], 1, w[1], w[2]);
        }
        int[][] within = {{0, 0, 3}, {2, 0, 3}, {4, 2, 1}, {5, 3, 0}, {0, 3, 0}, {5, 0, 0}};
        for (int[] w : within) {
            x.due(w[2], "copy", 0, w[0], 1, w[1], w[2]);
            x.due(0, "fault");
        }
    }

    // ---- parts: the terms, promises 40 to 45

    /** PLAIN, TURNED, SIGNED: a 2, b -3, c 4. */
    private static Run threeKinds(Said said) {
        Run x = said.run();
        for (int kind = 0; kind < 3; kind++) {
            x.due(kind, "weights", kind, 2, -3, 4);
        }
        return x;
    }

    private static void traceWraps(Said said) {
        Run x = threeKinds(said);
        x.told(0, "trace");
        BigInteger whole = BigInteger.ZERO;
        int[][] left = {{1}, {2, 1}, {3, 2, 1, 1}};
        for (int call = 0; call < 60; call++) {
            int kind = call % 3;
            x.made("tell", kind);
            for (int number : left[kind]) {
                whole = whole.multiply(BigInteger.valueOf(31)).add(BigInteger.valueOf(number));
            }
            x.due(whole.intValue(), "trace");
        }
        said.holds("it has wrapped", whole.bitLength() > 100);
    }

    private static void tellingPlain(Said said) {
        for (int a = -9; a <= 9; a++) {
            Run x = said.run();
            x.due(0, "weights", 0, a, 9, 9);
            x.due(a, "tell", 0);
            x.due(1, "trace");
        }
    }

    private static void tellingTurned(Said said) {
        // What counts as a is b.
        for (int b = -9; b <= 9; b++) {
            Run x = said.run();
            x.due(0, "weights", 1, 9, b, 9);
            x.due(100 + b, "tell", 0);
            x.due(2 * 31 + 1, "trace");
        }
    }

    private static void tellingSigned(Said said) {
        for (int b = -9; b <= 9; b++) {
            Run x = said.run();
            x.due(0, "weights", 2, 9, b, 9);
            x.due(100 + b + b, "tell", 0);
            x.due(((3 * 31 + 2) * 31 + 1) * 31 + 1, "trace");
        }
    }

    private static void named(Said said) {
        for (int kind = 0; kind < 3; kind++) {
            Run x = said.run();
            for (int k = 0; k < 6; k++) {
                x.due(k, "weights", kind, 1, 1, 1);
            }
            int trace = 0;
            for (int k = 0; k < 6; k++) {
                x.due(kind == 2 ? 60 : k, "name", k);
                trace = 31 * trace + (kind == 2 ? 5 : 4);
                x.due(trace, "trace");
            }
        }
    }

    private static void tellAll(Said said) {
        Run x = threeKinds(said);
        x.due(2, "tell", 0);
        x.due(97, "tell", 1);
        x.due(94, "tell", 2);
        // A refused one leaves nothing.
        x.refused(UNKNOWN, "tell", 3);
        x.told(0, "many", 6);
    }

    private static void name(Said said) {
        Run x = threeKinds(said);
        x.due(0, "name", 0);
        x.due(1, "name", 1);
        x.due(60, "name", 2);
        x.refused(UNKNOWN, "name", 3);
        x.due((4 * 31 + 4) * 31 + 5, "trace");
    }

    private static void as(Said said) {
        Run x = threeKinds(said);
        for (int k = 0; k < 3; k++) {
            for (int kind = 0; kind <= k; kind++) {
                x.told(1, "as", k, kind);
            }
        }
        x.told(0, "trace");
    }

    private static void asOutside(Said said) {
        Run x = threeKinds(said);
        x.limits(OUTSIDE, 0, 2, 1, "as", 2, 0);
        for (int k = 0; k < 2; k++) {
            for (int kind : new int[] {-1, 3, MIN, MAX}) {
                x.refused(OUTSIDE, "as", k, kind);
            }
        }
        x.refused(UNKNOWN, "as", 3, 3);
    }

    private static void asCast(Said said) {
        Run x = threeKinds(said);
        x.faulted(CAST, "as", 0, 1);
        x.faulted(CAST, "as", 0, 2);
        x.faulted(CAST, "as", 1, 2);
        x.told(1, "as", 2, 1);
        for (int k = 0; k < 3; k++) {
            x.told(1, "as", k, 0);
            x.told(1, "as", k, k);
        }
    }

    private static void trace(Said said) {
        Run x = said.run();
        x.told(0, "trace");
        x = threeKinds(said);
        x.made("tell", 2);
        x.told(((3 * 31 + 2) * 31 + 1) * 31 + 1, "trace");
        // Only tell() and name() leave something; undone acts take nothing.
        x.made("chain", 3, true, 1, 1);
        x.made("walls", 2, 3);
        x.told(1, "as", 2, 0);
        x.made("undo");
        x.told(((3 * 31 + 2) * 31 + 1) * 31 + 1, "trace");
    }

    private static void fault(Said said) {
        Run x = said.full();
        x.due(-14, "sheet", 0, 0, -1);
        x.due(4, "fault");
        x.due(-11, "put", 3, 0, 0);
        x.due(1, "fault");
        x.due(-13, "put", 0, 3, 0);
        x.due(3, "fault");
        x.due(LOST, "cell", 0, 0, 1);
        x.due(2, "fault");
        x.due(-11, "copy", 0, 0, 3, 0, 0);
        x.due(1, "fault");
        x.due(-12, "as", 0, 2);
        x.due(2, "fault");
        x.due(-13, "weightsOf", 0, 0, 0, 1);
        x.due(3, "fault");
        // It stays until the next call that names one.
        x.due(3, "fault");
        x.made("lose", 0);
        x.made("tell", 0);
        x.made("undo");
        x.made("redo");
        x.made("chain", 3, true, 1, 1);
        x.due(UNKNOWN, "lose", 4);
        x.due(UNKNOWN, "tell", 9);
        x.due(LOST, "word", 9, 9, 9);
        x.due(LOST, "weight", 9, 9);
        x.due(OUTSIDE, "weights", 9, 9, 9, 9);
        x.due(3, "fault");
    }

    private static void noFault(Said said) {
        Object[][] calls = {
            {1, "sheet", 1, 0, 3}, {UNKNOWN, "sheet", 4, 0, 3}, {OUTSIDE, "sheet", 0, 3, 3}, {OUTSIDE, "sheet", 0, 0, 61},
            {1, "put", 0, 0, 5}, {UNKNOWN, "put", 4, 0, 0}, {0, "cell", 0, 0, 0}, {LOST, "cell", 4, 0, 0},
            {LOST, "cell", 0, 0, 3}, {1, "copy", 0, 0, 0, 1, 1}, {UNKNOWN, "copy", 4, 0, 0, 0, 0}, {1, "as", 0, 0},
            {UNKNOWN, "as", 9, 0}, {OUTSIDE, "as", 0, 3}, {3, "weightsOf", 0, 1, 1, 1}, {UNKNOWN, "weightsOf", 0, 4, 0, 0},
            {OUTSIDE, "weightsOf", 3, 0, 0, 0}, {OUTSIDE, "weightsOf", 0, 1, 1, 0},
        };
        for (Object[] call : calls) {
            Run x = said.full();
            x.due(-12, "as", 0, 2);
            x.due(2, "fault");
            x.due(((Number) call[0]).longValue(), (String) call[1], behind(call, 2));
            x.due(0, "fault");
        }
        // FULL is a refusal, too.
        Run x = said.run();
        x.made("sheet", 0, 0, 3);
        for (int k = 0; k < 6; k++) {
            x.due(k, "weightsOf", 0, 0, 0, 0);
        }
        x.due(-12, "as", 0, 2);
        x.due(-4, "weightsOf", 0, 0, 0, 0);
        x.due(0, "fault");
    }

    private static void aheadOfAny(Said said) {
        Run x = said.run();
        x.due(0, "fault");
        x.made("chain", 3, true, 1, 1);
        x.made("weights", 0, 1, 1, 1);
        x.due(UNKNOWN, "lose", 9);
        x.due(0, "fault");
    }

    private static void many(Said said) {
        Run x = said.chain(2, false, 4, 2);
        x.made("weights", 0, 1, 1, 1);
        x.made("clear", 0);
        x.made("clear", 0);
        x.made("undo");
        long[] open = {2, 0, 4, 102, 1, 1, 2, 1};
        for (int what = 0; what < 8; what++) {
            x.told(open[what], "many", what);
        }
        x.made("chain", 8, true, 1, -1);
        long[] ring = {8, 1, 1, 99, 8, 1, 3, 0};
        for (int what = 0; what < 8; what++) {
            x.told(ring[what], "many", what);
        }
        // A RING of 2 has its PAIR twice.
        x.made("chain", 2, true, 1, 0);
        x.told(2, "many", 4);
    }

    private static void manyOfBent(Said said) {
        Run x = said.run();
        for (int d = -2; d <= 2; d++) {
            x.made("chain", 4, true, 1, d);
            x.told(100 + d, "many", 3);
        }
    }
}
