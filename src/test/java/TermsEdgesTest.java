import java.io.IOException;
import java.io.UncheckedIOException;
import java.nio.file.Files;
import java.nio.file.Path;

/** What the document says of all calls: how long an object lasts, refusals and their order, FAULTS. */
public final class TermsEdgesTest extends Edges {
    public static void main(String[] args) {
        Said.ask(TermsEdgesTest::tell);
    }

    static void tell(Said said) {
        said.section("What it is");
        said.says("An object is used for at most 512 calls after it has been made; what later calls answer is free.",
            TermsEdgesTest::the512thCall);
        said.section("The public face");
        said.says("public static final int UNKNOWN = -1, OUTSIDE = -2, STATE = -3, FULL = -4, SPENT = -6, NONE = -9;",
            TermsEdgesTest::numbersOfRefusals);
        said.says("public static final long LOST = Long.MIN_VALUE;", TermsEdgesTest::numberOfLost);
        said.section("Terms");
        said.says("REFUSALS: UNKNOWN (there is no such WEIGHTS, SUM, SHEET, place),", TermsEdgesTest::unknown);
        said.says("OUTSIDE (another number is not as told),", TermsEdgesTest::outside);
        said.says("STATE (as told),", TermsEdgesTest::state);
        said.says("FULL,", TermsEdgesTest::full);
        said.says("SPENT (-6: as told);", TermsEdgesTest::spent);
        said.says("of several the first in the order in which a call's line tells them.",
            TermsEdgesTest::orderOfRefusals);
        said.says("They change nothing (but fault(), of a call that names FAULTS).",
            TermsEdgesTest::refusalsChangeNothing);
        said.says("FAULTS are the machine's: 1 NULL (there is nothing),", TermsEdgesTest::nullFaults);
        said.says("2 CAST (it is of another LANE, kind),", TermsEdgesTest::castFaults);
        said.says("3 INDEX (of cells from i on also where i is not 0 .. how many there are, if none of them is taken,"
            + " too),", TermsEdgesTest::indexFaults);
        said.says("4 SIZE (a length below 0).", TermsEdgesTest::sizeFaults);
        said.says("Of a call the first that is come to, in the order told;", TermsEdgesTest::orderOfFaults);
        said.says("it answers -10 less it (LOST, where a long is answered, as for refusals) and changes nothing;"
            + " fault() tells it.", TermsEdgesTest::faultsChangeNothing);
        said.says("NONE is -9.", TermsEdgesTest::none);
        said.says("Ahead of the calls `chain`, `act`, `turned`, `size`, `head`, `entry`, `poly`, `above`, `often`,"
            + " `whole`, `power`, `powerOf`, `rest`, `seen` the interface says: ---- 1 the chain.",
            at -> interfaceSays(at, "---- 1 the chain", "chain", "act", "turned", "size", "head", "entry", "poly",
                "above", "often", "whole", "power", "powerOf", "rest", "seen"));
        said.says("Ahead of the calls `weights`, `weightsOf`, `weight`, `rowEntry`, `unlike`, `ice`, `walls`,"
            + " `exchange` the interface says: ---- 2 ice.",
            at -> interfaceSays(at, "---- 2 ice", "weights", "weightsOf", "weight", "rowEntry", "unlike", "ice",
                "walls", "exchange"));
        said.says("Ahead of the calls `add`, `clear`, `asChain`, `join`, `shift`, `word`, `words`, `bracket`, `kept`"
            + " the interface says: ---- 3 words.",
            at -> interfaceSays(at, "---- 3 words", "add", "clear", "asChain", "join", "shift", "word", "words",
                "bracket", "kept"));
        said.says("Ahead of the calls `undo`, `redo`, `sheet`, `lose`, `put`, `cell`, `copy`, `tell`, `name`, `as`,"
            + " `trace`, `fault`, `many` the interface says: ---- 4 undo, sheets, parts.",
            at -> interfaceSays(at, "---- 4 undo, sheets, parts", "undo", "redo", "sheet", "lose", "put", "cell",
                "copy", "tell", "name", "as", "trace", "fault", "many"));
    }

    private static void the512thCall(Said said) {
        Run x = said.run();
        for (int call = 1; call < 512; call++) {
            x.due(1, "add", 0, 0, 0, 1, 0);
        }
        x.due(511, "word", 0, 0, 2);
        x = said.run();
        x.due(0, "weights", 2, 0, 0, 0);
        for (int call = 2; call < 512; call++) {
            x.due(60, "name", 0);
        }
        int trace = 0;
        for (int call = 2; call < 512; call++) {
            trace = 31 * trace + 5;
        }
        x.due(trace, "trace");
        x = said.run();
        for (int call = 1; call < 510; call++) {
            x.due(call % 2 == 1 ? 256 : 64, "chain", call % 2 == 1 ? 8 : 6, false, 1, 1);
        }
        x.due(20, "many", 6);
        x.due(19, "undo");
        x.due(64, "chain", 6, true, 1, 1);
    }

    private static void numbersOfRefusals(Said said) {
        said.due("UNKNOWN", MagnetRows.UNKNOWN, -1);
        said.due("OUTSIDE", MagnetRows.OUTSIDE, -2);
        said.due("STATE", MagnetRows.STATE, -3);
        said.due("FULL", MagnetRows.FULL, -4);
        said.due("SPENT", MagnetRows.SPENT, -6);
        said.due("NONE", MagnetRows.NONE, -9);
    }

    private static void numberOfLost(Said said) {
        said.due("LOST", MagnetRows.LOST, -9223372036854775807L - 1);
    }

    private static void none(Said said) {
        said.due("NONE", MagnetRows.NONE, -9);
    }

    private static void unknown(Said said) {
        Run x = said.full();
        for (int k : new int[] {-1, 3, 6, MIN, MAX}) {
            x.refused(UNKNOWN, "tell", k);
            x.refused(UNKNOWN, "walls", k, 1);
        }
        for (int k : new int[] {-1, 4, MIN, MAX}) {
            x.refused(UNKNOWN, "words", k);
            x.refused(UNKNOWN, "lose", k);
        }
        x.refused(UNKNOWN, "head", 0, 1, 1);
        x.refused(UNKNOWN, "head", 0, 1, -1);
    }

    private static void outside(Said said) {
        Run x = said.full();
        x.refused(OUTSIDE, "turned", 32);
        x.refused(OUTSIDE, "weights", 3, 0, 0, 0);
        x.refused(OUTSIDE, "join", 0, 0, 0, 4);
        x.refused(OUTSIDE, "many", 8);
    }

    private static void state(Said said) {
        Run x = said.run();
        x.refused(STATE, "undo");
        x.refused(STATE, "redo");
        x.made("add", 0, 64, 0, 1, 0);
        x.refused(STATE, "shift", 0, 0, 1);
        x.refused(STATE, "redo");
    }

    private static void full(Said said) {
        Run x = sixWeights(said);
        x.refused(FULL, "weights", 0, 0, 0, 0);
        x.made("sheet", 0, 0, 3);
        x.refused(FULL, "weightsOf", 0, 0, 0, 0);
    }

    private static Run sixWeights(Said said) {
        Run x = said.run();
        for (int k = 0; k < 6; k++) {
            x.due(k, "weights", k % 3, k, -k, 9);
        }
        return x;
    }

    private static void spent(Said said) {
        Run x = said.chain(8, false, 1, 1);
        x.refused(SPENT, "above", 4, 1, 0);
        x.refused(SPENT, "often", 4, 1, 0);
        x.refused(SPENT, "whole", 4, 1);
        x.refused(SPENT, "add", 0, 0, 0, 1000001, 0);
        x.made("add", 0, 0, 0, 1000000, 0);
        x.refused(SPENT, "join", 0, 0, 0, 0);
    }

    /** Of each call whose refusals can be told from one another: all are given at once, then the first is mended. */
    private static void orderOfRefusals(Said said) {
        Run x = said.chain(8, false, 1, 1);
        x.refused(OUTSIDE, "head", 9, 1, 99);
        x.refused(OUTSIDE, "head", 4, 0, 99);
        x.refused(UNKNOWN, "head", 4, 1, 99);
        for (String call : new String[] {"above", "often"}) {
            x.refused(OUTSIDE, call, 4, 1, 51);
            x.refused(OUTSIDE, call, 4, 1, -51);
            x.refused(OUTSIDE, call, 4, 0, 0);
            x.refused(OUTSIDE, call, 9, 1, 0);
            x.refused(SPENT, call, 4, 1, 0);
        }
        x.refused(OUTSIDE, "whole", 4, 2);
        x.refused(SPENT, "whole", 4, 1);
        orderOfIce(said);
        orderOfWords(said);
    }

    private static void orderOfIce(Said said) {
        Run x = sixWeights(said);
        x.refused(OUTSIDE, "weights", 3, 0, 0, 0);
        x.refused(OUTSIDE, "weights", 0, 10, 0, 0);
        x.refused(OUTSIDE, "weights", 0, 0, -10, 0);
        x.refused(OUTSIDE, "weights", 0, 0, 0, 10);
        x.refused(FULL, "weights", 0, 0, 0, 0);
        x.refused(UNKNOWN, "unlike", 6, 0, 7);
        x.refused(UNKNOWN, "unlike", 0, 6, 7);
        x.refused(OUTSIDE, "unlike", 0, 0, 7);
        x.refused(UNKNOWN, "ice", 6, 7, 9);
        x.refused(OUTSIDE, "ice", 0, 7, 1);
        x.refused(OUTSIDE, "ice", 0, 2, 9);
        x.refused(UNKNOWN, "walls", 6, 7);
        x.refused(OUTSIDE, "walls", 0, 7);
        x.refused(UNKNOWN, "as", 6, 3);
        x.refused(OUTSIDE, "as", 0, 3);
        x.faulted(CAST, "as", 0, 2);
    }

    private static void orderOfWords(Said said) {
        Run x = said.run();
        x.made("add", 0, 64, 0, 1000000, 0);
        x.refused(UNKNOWN, "add", 4, 256, 256, 1000001, 0);
        x.refused(OUTSIDE, "add", 0, 256, 0, 1000001, 0);
        x.refused(OUTSIDE, "add", 0, 0, 256, 1000001, 0);
        x.refused(SPENT, "add", 0, 0, 0, 1000001, 0);
        x.refused(UNKNOWN, "join", 4, 0, 0, 4);
        x.refused(UNKNOWN, "join", 0, 4, 0, 4);
        x.refused(UNKNOWN, "join", 0, 0, 4, 4);
        x.refused(OUTSIDE, "join", 0, 0, 0, 4);
        x.refused(SPENT, "join", 0, 0, 0, 2);
        x.refused(UNKNOWN, "shift", 4, 0, 8);
        x.refused(UNKNOWN, "shift", 0, 4, 8);
        x.refused(OUTSIDE, "shift", 0, 0, 8);
        x.refused(STATE, "shift", 0, 0, 7);
    }

    /** Each call with each argument wrong, on an object of which all is in use. */
    private static void refusalsChangeNothing(Said said) {
        Run x = said.full();
        for (Object[] call : REFUSED) {
            x.refused(((Number) call[0]).longValue(), (String) call[1], behind(call, 2));
        }
        x.due(7, "redo");
        x.refused(STATE, "shift", 0, 2, 0);
        x.due(8, "redo");
        x.refused(STATE, "redo");
    }

    private static final Object[][] REFUSED = {
        {OUTSIDE, "chain", 1, true, 1, 1}, {OUTSIDE, "chain", 9, true, 1, 1}, {OUTSIDE, "chain", 4, true, 0, 1},
        {OUTSIDE, "chain", 4, true, 5, 1}, {OUTSIDE, "chain", 4, true, 1, -3}, {OUTSIDE, "chain", 4, true, 1, 3},
        {LOST, "act", 32, 0}, {LOST, "act", 0, 32}, {LOST, "act", -1, 0}, {LOST, "act", 0, -1},
        {OUTSIDE, "turned", 32}, {OUTSIDE, "turned", -1},
        {OUTSIDE, "size", 6, 1}, {OUTSIDE, "size", -1, 1}, {OUTSIDE, "size", 1, 0},
        {OUTSIDE, "head", 6, 1, 0}, {OUTSIDE, "head", 1, 0, 0}, {UNKNOWN, "head", 1, 1, 3}, {UNKNOWN, "head", 1, 1, -1},
        {LOST, "entry", 6, 1, 0, 0}, {LOST, "entry", 1, 0, 0, 0}, {LOST, "entry", 1, 1, 3, 0},
        {LOST, "entry", 1, 1, 0, 3}, {LOST, "poly", 6, 1, 0}, {LOST, "poly", 1, 0, 0}, {LOST, "poly", 1, 1, 4},
        {LOST, "poly", 1, 1, -1}, {OUTSIDE, "above", 6, 1, 0}, {OUTSIDE, "above", 1, 0, 0},
        {OUTSIDE, "above", 1, 1, 51}, {OUTSIDE, "often", 6, 1, 0}, {OUTSIDE, "often", 1, 0, 0},
        {OUTSIDE, "often", 1, 1, -51}, {OUTSIDE, "whole", 6, 1}, {OUTSIDE, "whole", 1, 0},
        {LOST, "power", 6, 1, 1}, {LOST, "power", 1, 0, 1}, {LOST, "power", 1, 1, 0}, {LOST, "power", 1, 1, 5},
        {LOST, "powerOf", 6, 1}, {LOST, "powerOf", -1, 1}, {LOST, "powerOf", 1, 0}, {LOST, "powerOf", 1, 5},
        {LOST, "rest", 6, 1, 0, 0}, {LOST, "rest", 0, 0, -4, 0}, {LOST, "rest", 0, 1, 51, 0},
        {LOST, "rest", 0, 1, -3, 0}, {LOST, "rest", 0, 1, -4, 1},
        {LOST, "seen", 6, 1, 0, 0, 1, 0}, {LOST, "seen", 0, 1, -3, 0, 1, 0}, {LOST, "seen", 0, 1, -4, 5, 1, 0},
        {LOST, "seen", 0, 1, -4, 0, 5, 0}, {LOST, "seen", 0, 1, -4, 0, 1, 2},
        {OUTSIDE, "weights", 3, 0, 0, 0}, {OUTSIDE, "weights", 0, 10, 0, 0}, {OUTSIDE, "weights", 0, 0, 10, 0},
        {OUTSIDE, "weights", 0, 0, 0, 10}, {UNKNOWN, "weightsOf", 0, 4, 0, 0}, {OUTSIDE, "weightsOf", 0, 0, 3, 0},
        {OUTSIDE, "weightsOf", 3, 0, 0, 0}, {OUTSIDE, "weightsOf", 0, 1, 1, 0}, {OUTSIDE, "weightsOf", 0, 0, 0, 0},
        {LOST, "weight", 3, 0}, {LOST, "weight", -1, 0}, {LOST, "weight", 0, 4}, {LOST, "weight", 0, -1},
        {LOST, "rowEntry", 3, 2, 0, 0}, {LOST, "rowEntry", 0, 1, 0, 0}, {LOST, "rowEntry", 0, 7, 0, 0},
        {LOST, "rowEntry", 0, 2, 4, 0}, {LOST, "rowEntry", 0, 2, 0, 4}, {UNKNOWN, "unlike", 3, 0, 2},
        {UNKNOWN, "unlike", 0, 3, 2}, {OUTSIDE, "unlike", 0, 0, 7}, {UNKNOWN, "ice", 3, 2, 1}, {OUTSIDE, "ice", 0, 1, 1},
        {OUTSIDE, "ice", 0, 2, 0}, {UNKNOWN, "walls", 3, 1}, {OUTSIDE, "walls", 0, 0}, {UNKNOWN, "exchange", 3, 0, 0},
        {UNKNOWN, "exchange", 0, 3, 0}, {UNKNOWN, "exchange", 0, 0, 3},
        {UNKNOWN, "add", 4, 0, 0, 1, 1}, {OUTSIDE, "add", 0, 256, 0, 1, 1}, {OUTSIDE, "add", 0, 0, -1, 1, 1},
        {SPENT, "add", 2, 32, 32, 1, 0}, {SPENT, "add", 2, 32, 32, 0, 1000000}, {SPENT, "add", 0, 0, 0, MIN, MAX},
        {UNKNOWN, "clear", 4}, {UNKNOWN, "clear", -1}, {UNKNOWN, "asChain", 4}, {UNKNOWN, "asChain", -1},
        {UNKNOWN, "join", 4, 0, 0, 0}, {UNKNOWN, "join", 0, 4, 0, 0}, {UNKNOWN, "join", 0, 0, 4, 0},
        {OUTSIDE, "join", 0, 0, 0, 4}, {OUTSIDE, "join", 0, 0, 0, -1}, {SPENT, "join", 0, 2, 2, 0},
        {SPENT, "join", 0, 2, 2, 2}, {UNKNOWN, "shift", 4, 0, 1}, {UNKNOWN, "shift", 0, 4, 1},
        {OUTSIDE, "shift", 0, 0, 8}, {OUTSIDE, "shift", 0, 0, -1}, {STATE, "shift", 0, 2, 1},
        {LOST, "word", 4, 0, 0}, {LOST, "word", 0, 2, 0}, {LOST, "word", 0, -1, 0}, {LOST, "word", 0, 0, 4},
        {UNKNOWN, "words", 4}, {UNKNOWN, "bracket", 4, 0}, {UNKNOWN, "bracket", 0, 4}, {UNKNOWN, "kept", 4},
        {UNKNOWN, "sheet", 4, 0, 1}, {OUTSIDE, "sheet", 0, 3, 1}, {OUTSIDE, "sheet", 0, 0, 61}, {UNKNOWN, "lose", 4},
        {UNKNOWN, "put", 4, 0, 1}, {LOST, "cell", 4, 0, 0}, {LOST, "cell", 0, 0, 3}, {UNKNOWN, "copy", 4, 0, 0, 0, 0},
        {UNKNOWN, "copy", 0, 0, 4, 0, 0}, {UNKNOWN, "tell", 3}, {UNKNOWN, "tell", -1}, {UNKNOWN, "name", 3},
        {UNKNOWN, "name", -1}, {UNKNOWN, "as", 3, 0}, {OUTSIDE, "as", 0, 3}, {OUTSIDE, "many", 8}, {OUTSIDE, "many", -1},
    };

    private static void nullFaults(Said said) {
        Run x = said.full();
        x.faulted(NULL, "put", 3, 0, 0);
        x.faulted(NULL, "cell", 3, 0, 0);
        x.faulted(NULL, "copy", 3, 0, 0, 0, 0);
        x.faulted(NULL, "copy", 0, 0, 3, 0, 0);
        x.faulted(NULL, "copy", 3, 0, 3, 0, 0);
        x.faulted(NULL, "weightsOf", 0, 3, 0, 0);
        // A row of none is not nothing.
        x.faulted(INDEX, "put", 2, 0, 0);
        x.faulted(INDEX, "cell", 2, 0, 2);
        x.faulted(INDEX, "weightsOf", 0, 2, 2, 0);
    }

    private static void castFaults(Said said) {
        Run x = said.full();
        for (int lane = 0; lane < 3; lane++) {
            for (int k = 0; k < 3; k++) {
                // SHEET k has a row of LANE k.
                if (lane != k) {
                    x.faulted(CAST, "cell", k, 0, lane);
                    x.faulted(CAST, "weightsOf", 0, k, lane, 0);
                    x.faulted(CAST, "copy", k, 0, lane, 0, 0);
                }
            }
        }
        x.faulted(CAST, "as", 0, 1);
        x.faulted(CAST, "as", 0, 2);
        x.faulted(CAST, "as", 1, 2);
    }

    private static void indexFaults(Said said) {
        Run x = said.full();
        for (int i : new int[] {-1, 3, MIN, MAX}) {
            x.faulted(INDEX, "put", 0, i, 1);
            x.faulted(INDEX, "cell", 0, i, 0);
        }
        // Of SHEET 0's three cells and SHEET 2's none, none is taken.
        x.told(0, "copy", 0, 3, 0, 3, 0);
        x.told(0, "copy", 0, 0, 0, 3, 0);
        x.told(0, "copy", 2, 0, 2, 0, 0);
        for (int i : new int[] {-1, 4, MIN, MAX}) {
            x.faulted(INDEX, "copy", 0, i, 0, 0, 0);
            x.faulted(INDEX, "copy", 0, 0, 0, i, 0);
        }
        x.faulted(INDEX, "copy", 2, 1, 2, 0, 0);
        x.faulted(INDEX, "copy", 2, 0, 2, 1, 0);
        // Three cells are taken of SHEET 1's four.
        for (int i : new int[] {-1, 2, 3, 4, MIN, MAX}) {
            x.faulted(INDEX, "weightsOf", 0, 1, 1, i);
        }
        x.due(3, "weightsOf", 0, 1, 1, 1);
    }

    private static void sizeFaults(Said said) {
        Run x = said.full();
        for (int n : new int[] {-1, -2, -60, MIN}) {
            for (int k = 0; k < 4; k++) {
                x.faulted(SIZE, "sheet", k, 2, n);
            }
        }
        x.made("sheet", 0, 2, 0);
    }

    private static void orderOfFaults(Said said) {
        Run x = said.full();
        // copy: NULL, CAST, INDEX.
        x.faulted(NULL, "copy", 3, -1, 0, -1, -1);
        x.faulted(NULL, "copy", 0, -1, 3, -1, -1);
        x.faulted(CAST, "copy", 0, -1, 1, -1, -1);
        x.faulted(INDEX, "copy", 0, -1, 0, -1, -1);
        // cell, weightsOf: nothing is no CAST, then CAST ahead of INDEX.
        x.faulted(NULL, "cell", 3, -1, 0);
        x.faulted(CAST, "cell", 0, -1, 1);
        x.faulted(INDEX, "cell", 0, -1, 0);
        x.faulted(NULL, "weightsOf", 0, 3, 0, -1);
        x.faulted(CAST, "weightsOf", 0, 0, 1, -1);
        x.faulted(INDEX, "weightsOf", 0, 0, 0, -1);
        // put: NULL ahead of INDEX.
        x.faulted(NULL, "put", 3, -1, 0);
        x.faulted(INDEX, "put", 0, -1, 0);
        // A refusal that is told ahead of a FAULT is answered, and one behind it is not.
        x.refused(UNKNOWN, "copy", 4, -1, 3, -1, -1);
        x.refused(UNKNOWN, "copy", 3, -1, 4, -1, -1);
        x.refused(LOST, "cell", 3, -1, 3);
        x.refused(OUTSIDE, "weightsOf", 3, 3, 0, -1);
        x.refused(OUTSIDE, "sheet", 0, 3, -1);
        x.refused(UNKNOWN, "sheet", 4, 0, -1);
        x.refused(UNKNOWN, "put", 4, -1, 0);
        x.faulted(INDEX, "weightsOf", 0, 1, 1, 2);
        x.refused(OUTSIDE, "weightsOf", 0, 1, 1, 0);
    }

    private static void faultsChangeNothing(Said said) {
        Run x = said.full();
        x.due(-11, "put", 3, 0, 0);
        x.due(1, "fault");
        x.due(-12, "as", 0, 1);
        x.due(2, "fault");
        x.due(-13, "copy", 0, 0, 0, 0, 4);
        x.due(3, "fault");
        x.due(-14, "sheet", 0, 0, -1);
        x.due(4, "fault");
        x.due(LOST, "cell", 3, 0, 0);
        x.due(1, "fault");
        x.due(LOST, "cell", 0, 0, 1);
        x.due(2, "fault");
        x.due(LOST, "cell", 0, 3, 0);
        x.due(3, "fault");
        x.due(-12, "weightsOf", 0, 0, 1, 0);
        x.due(2, "fault");
        // Of these three cells only the last one is beyond: no cell may have gone.
        x.faulted(INDEX, "copy", 0, 0, 0, 1, 3);
        x.faulted(INDEX, "copy", 0, 1, 0, 0, 3);
        x.faulted(SIZE, "sheet", 1, 0, -1);
    }

    private static void interfaceSays(Said said, String words, String... calls) {
        String program;
        try {
            program = Files.readString(Path.of("src/main/java/MagnetRows.java"));
        } catch (IOException gone) {
            throw new UncheckedIOException(gone);
        }
        int from = program.indexOf("// " + words + "\n");
        int to = program.indexOf("// ----", from + 1);
        said.holds("the program says " + words, from >= 0 && to > from);
        for (String call : calls) {
            int at = Math.max(program.indexOf("public int " + call + "("), program.indexOf("public long " + call + "("));
            said.holds(call + " stands behind " + words, at > from && at < to);
        }
    }
}
