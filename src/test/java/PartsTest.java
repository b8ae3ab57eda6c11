/** Promises 35 to 45: sheets, parts, what is told of them. */
public final class PartsTest {
    private static final Check CHECK = new Check();
    private static final long LOST = MagnetRows.LOST;
    private static final int MIN = Integer.MIN_VALUE;
    private static final int MAX = Integer.MAX_VALUE;

    public static void main(String[] args) {
        sheetsCome();
        sheetsRefused();
        losing();
        putting();
        puttingRefused();
        cells();
        copying();
        copyingRefused();
        telling();
        naming();
        casting();
        faults();
        howMany();
        CHECK.end();
    }

    private static void due(String call, long got, long want) {
        CHECK.due(call, got, want);
    }

    /** An answer and the FAULT behind it. */
    private static void faulty(MagnetRows x, String call, long got, long want, int fault) {
        due(call, got, want);
        due("44 fault behind " + call, x.fault(), fault);
    }

    private static void sheetsCome() {
        MagnetRows x = new MagnetRows();
        for (int k = 0; k < 4; k++) {
            for (int lane = 0; lane < 3; lane++) {
                due("35 sheet", x.sheet(k, lane, 60), 1);
                due("35 all 0", x.cell(k, 59, lane), 0);
                due("35 not more", x.cell(k, 60, lane), LOST);
                due("35 put", x.put(k, 0, 5), 1);
            }
        }
        due("35 a new row", x.sheet(0, 2, 1), 1);
        due("35 a new row is 0", x.cell(0, 0, 2), 0);
        due("35 of none", x.sheet(0, 0, 0), 1);
        faulty(x, "35 of none", x.cell(0, 0, 0), LOST, 3);
        due("35 nothing to undo", x.many(6), 0);
    }

    private static void sheetsRefused() {
        MagnetRows x = new MagnetRows();
        x.sheet(1, 1, 2);
        x.put(1, 1, 7);
        faulty(x, "35 unknown first", x.sheet(4, 3, 61), -1, 0);
        faulty(x, "35 unknown", x.sheet(-1, 0, -1), -1, 0);
        faulty(x, "35 lane ahead of size", x.sheet(1, 3, -1), -2, 0);
        faulty(x, "35 lane", x.sheet(1, -1, 1), -2, 0);
        faulty(x, "35 above 60", x.sheet(1, 0, 61), -2, 0);
        faulty(x, "35 above 60", x.sheet(1, 0, MAX), -2, 0);
        faulty(x, "35 size", x.sheet(1, 0, -1), -14, 4);
        faulty(x, "35 size", x.sheet(1, 0, MIN), -14, 4);
        faulty(x, "35 refused", x.sheet(4, 0, -1), -1, 0);
        faulty(x, "35 it is as it was", x.cell(1, 1, 1), 7, 0);
    }

    private static void losing() {
        MagnetRows x = new MagnetRows();
        due("36 it had nothing", x.lose(2), 0);
        x.sheet(2, 0, 0);
        due("36 it has a row of none", x.lose(2), 1);
        due("36 it had nothing", x.lose(2), 0);
        faulty(x, "36 nothing", x.put(2, 0, 0), -11, 1);
        due("36 unknown", x.lose(4), -1);
        due("36 unknown", x.lose(-1), -1);
        due("36 lose() names no fault", x.fault(), 1);
    }

    private static void putting() {
        MagnetRows x = new MagnetRows();
        int[] values = {0, 127, 128, -128, -129, 255, 256, 32767, 32768, -32768, -32769, 65535, 65536, 70001, MAX, MIN};
        for (int lane = 0; lane < 3; lane++) {
            x.sheet(lane, lane, 3);
            for (int value : values) {
                int cut = lane == 0 ? (byte) value : lane == 1 ? (short) value : value;
                due("37 put", x.put(lane, 1, value), 1);
                due("37 cut to its lane", x.cell(lane, 1, lane), cut);
            }
            due("37 others stay", x.cell(lane, 0, lane), 0);
            due("37 others stay", x.cell(lane, 2, lane), 0);
        }
    }

    private static void puttingRefused() {
        MagnetRows x = new MagnetRows();
        x.sheet(1, 2, 2);
        faulty(x, "37 unknown", x.put(4, 9, 0), -1, 0);
        faulty(x, "37 null ahead of index", x.put(0, -1, 0), -11, 1);
        faulty(x, "37 unknown", x.put(-1, 0, 0), -1, 0);
        faulty(x, "37 index", x.put(1, 2, 9), -13, 3);
        faulty(x, "37 index", x.put(1, -1, 9), -13, 3);
        faulty(x, "37 index", x.put(1, MIN, 9), -13, 3);
        faulty(x, "37 index", x.put(1, MAX, 9), -13, 3);
        faulty(x, "37 as they were", x.cell(1, 0, 2), 0, 0);
        faulty(x, "37 as they were", x.cell(1, 1, 2), 0, 0);
    }

    private static void cells() {
        MagnetRows x = new MagnetRows();
        x.sheet(1, 1, 2);
        x.put(1, 0, -5);
        faulty(x, "38 cell", x.cell(1, 0, 1), -5, 0);
        faulty(x, "38 cast ahead of index", x.cell(1, 9, 0), LOST, 2);
        faulty(x, "38 unknown", x.cell(4, 0, 1), LOST, 0);
        faulty(x, "38 cast", x.cell(1, 0, 2), LOST, 2);
        faulty(x, "38 outside", x.cell(1, 0, 3), LOST, 0);
        faulty(x, "38 nothing is no cast", x.cell(0, 9, 0), LOST, 1);
        faulty(x, "38 outside ahead of null", x.cell(0, 0, -1), LOST, 0);
        faulty(x, "38 index", x.cell(1, 2, 1), LOST, 3);
        faulty(x, "38 unknown", x.cell(-1, 0, 1), LOST, 0);
        faulty(x, "38 index", x.cell(1, -1, 1), LOST, 3);
        faulty(x, "38 cell", x.cell(1, 1, 1), 0, 0);
    }

    private static MagnetRows twoRows() {
        MagnetRows x = new MagnetRows();
        x.sheet(0, 1, 5);
        x.sheet(1, 1, 3);
        x.sheet(2, 2, 5);
        for (int i = 0; i < 5; i++) {
            x.put(0, i, i + 1);
        }
        return x;
    }

    private static void dueRow(MagnetRows x, String call, int k, int lane, int... want) {
        for (int i = 0; i < want.length; i++) {
            due(call + " cell " + i, x.cell(k, i, lane), want[i]);
        }
    }

    private static void copying() {
        MagnetRows x = twoRows();
        faulty(x, "39 copy", x.copy(0, 1, 1, 0, 3), 3, 0);
        dueRow(x, "39 copy", 1, 1, 2, 3, 4);
        due("39 onward in the same", x.copy(0, 0, 0, 1, 4), 4);
        dueRow(x, "39 onward", 0, 1, 1, 1, 2, 3, 4);
        x = twoRows();
        due("39 back in the same", x.copy(0, 1, 0, 0, 4), 4);
        dueRow(x, "39 back", 0, 1, 2, 3, 4, 5, 5);
        faulty(x, "39 none", x.copy(0, 5, 1, 3, 0), 0, 0);
        faulty(x, "39 all of the same", x.copy(0, 0, 0, 0, 5), 5, 0);
        dueRow(x, "39 all", 0, 1, 2, 3, 4, 5, 5);
    }

    private static void copyingRefused() {
        MagnetRows x = twoRows();
        faulty(x, "39 null", x.copy(3, 9, 0, 9, 9), -11, 1);
        faulty(x, "39 unknown", x.copy(4, 0, 3, 0, 0), -1, 0);
        faulty(x, "39 null", x.copy(0, -1, 3, 0, 0), -11, 1);
        faulty(x, "39 unknown", x.copy(3, 0, 4, 0, 0), -1, 0);
        faulty(x, "39 cast ahead of index", x.copy(0, -1, 2, 0, 1), -12, 2);
        faulty(x, "39 unknown", x.copy(-1, 0, 0, 0, 0), -1, 0);
        faulty(x, "39 cast", x.copy(2, 0, 0, 0, 0), -12, 2);
        faulty(x, "39 unknown", x.copy(0, 0, -1, 0, 0), -1, 0);
        int[][] wrong = {{-1, 0, 1}, {0, -1, 1}, {0, 0, -1}, {0, 0, 4}, {4, 0, 2}, {0, 1, 3}, {6, 0, 0}, {0, 4, 0},
            {-1, 0, 0}, {0, -1, 0}, {MAX, 0, MAX}, {1, 0, MAX}, {MIN, MIN, MIN}, {MAX, MAX, 1}, {0, 0, MIN}};
        for (int[] w : wrong) {
            faulty(x, "39 index", x.copy(0, w[0], 1, w[1], w[2]), -13, 3);
        }
        dueRow(x, "39 as they were", 0, 1, 1, 2, 3, 4, 5);
        dueRow(x, "39 as they were", 1, 1, 0, 0, 0);
    }

    private static void telling() {
        MagnetRows x = new MagnetRows();
        x.weights(0, 2, -3, 4);
        x.weights(1, 2, -3, 4);
        x.weights(2, 2, -3, 4);
        due("40 plain", x.tell(0), 2);
        due("43 trace", x.trace(), 1);
        due("40 turned", x.tell(1), 97);
        due("43 trace", x.trace(), (31 + 2) * 31 + 1);
        MagnetRows y = new MagnetRows();
        y.weights(2, 2, -3, 4);
        due("40 signed", y.tell(0), 94);
        due("43 trace", y.trace(), ((3 * 31 + 2) * 31 + 1) * 31 + 1);
        due("40 unknown", x.tell(3), -1);
        due("40 unknown", x.tell(-1), -1);
        due("43 it stays", x.trace(), (31 + 2) * 31 + 1);
        int want = x.trace();
        for (int i = 0; i < 40; i++) {
            x.tell(0);
            want = 31 * want + 1;
            due("43 it wraps", x.trace(), want);
        }
    }

    private static void naming() {
        MagnetRows x = new MagnetRows();
        x.weights(2, 1, 1, 1);
        x.weights(1, 1, 1, 1);
        x.weights(0, 1, 1, 1);
        due("41 signed ones have their own", x.name(0), 60);
        due("43 trace", x.trace(), 5);
        due("41 turned", x.name(1), 1);
        due("43 trace", x.trace(), 5 * 31 + 4);
        due("41 plain", x.name(2), 2);
        due("43 trace", x.trace(), (5 * 31 + 4) * 31 + 4);
        due("41 unknown", x.name(3), -1);
        due("41 unknown", x.name(-1), -1);
        due("43 it stays", x.trace(), (5 * 31 + 4) * 31 + 4);
    }

    private static void casting() {
        MagnetRows x = new MagnetRows();
        for (int kind = 0; kind < 3; kind++) {
            x.weights(kind, 1, 1, 1);
        }
        for (int k = 0; k < 3; k++) {
            for (int kind = 0; kind < 3; kind++) {
                faulty(x, "42 as", x.as(k, kind), kind <= k ? 1 : -12, kind <= k ? 0 : 2);
            }
            faulty(x, "42 cast", x.as(0, 2), -12, 2);
            faulty(x, "42 outside", x.as(k, 3), -2, 0);
            faulty(x, "42 cast", x.as(0, 1), -12, 2);
            faulty(x, "42 outside", x.as(k, -1), -2, 0);
        }
        faulty(x, "42 cast", x.as(1, 2), -12, 2);
        faulty(x, "42 unknown first", x.as(3, 3), -1, 0);
        faulty(x, "42 unknown", x.as(-1, 0), -1, 0);
        due("43 nothing is left in trace", x.trace(), 0);
    }

    /** Calls that name no FAULT leave the latest one. */
    private static void faults() {
        MagnetRows x = new MagnetRows();
        faulty(x, "44 ahead of any", x.fault(), 0, 0);
        faulty(x, "44 null", x.put(0, 0, 0), -11, 1);
        due("44 others", x.chain(3, true, 1, 1), 8);
        due("44 others", x.act(9, 9), LOST);
        due("44 others", x.weights(9, 0, 0, 0), -2);
        due("44 others", x.add(9, 0, 0, 0, 0), -1);
        due("44 others", x.undo(), 0);
        due("44 others", x.lose(0), 0);
        due("44 others", x.tell(0), -1);
        due("44 others", x.trace(), 0);
        due("44 others", x.many(9), -2);
        due("44 the latest", x.fault(), 1);
        due("44 the latest", x.fault(), 1);
        faulty(x, "44 none", x.sheet(0, 0, 1), 1, 0);
        faulty(x, "44 size", x.sheet(0, 0, -5), -14, 4);
        faulty(x, "44 none", x.put(0, 0, 1), 1, 0);
        faulty(x, "44 index", x.put(0, 1, 1), -13, 3);
        faulty(x, "44 none", x.copy(0, 0, 0, 0, 1), 1, 0);
        faulty(x, "44 cast", x.cell(0, 0, 1), LOST, 2);
        x.sheet(0, 0, 3);
        faulty(x, "44 index", x.put(0, 3, 1), -13, 3);
        faulty(x, "44 none", x.weightsOf(0, 0, 0, 0), 0, 0);
        faulty(x, "44 cast", x.as(0, 2), -12, 2);
        faulty(x, "44 none", x.cell(0, 0, 0), 0, 0);
    }

    private static void howMany() {
        MagnetRows x = new MagnetRows();
        due("45 outside", x.many(8), -2);
        due("45 outside", x.many(-1), -2);
        due("45 outside", x.many(MIN), -2);
        due("45 outside", x.many(MAX), -2);
        x.chain(2, true, 4, -2);
        x.weights(0, 0, 0, 0);
        x.clear(0);
        x.undo();
        int[] want = {2, 1, 4, 98, 2, 1, 1, 1};
        for (int what = 0; what < 8; what++) {
            due("45 many " + what, x.many(what), want[what]);
        }
        x.chain(2, false, 1, 2);
        int[] then = {2, 0, 1, 102, 1, 1, 2, 0};
        for (int what = 0; what < 8; what++) {
            due("45 many " + what, x.many(what), then[what]);
        }
    }
}
