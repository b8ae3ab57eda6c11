import java.util.Arrays;

/** What the edges' tests share: numbers that the document names, and what is asked of several calls alike. */
abstract class Edges {
    static final int UNKNOWN = -1, OUTSIDE = -2, STATE = -3, FULL = -4, SPENT = -6;
    static final int NULL = 1, CAST = 2, INDEX = 3, SIZE = 4;
    static final long LOST = Long.MIN_VALUE;
    static final int MIN = Integer.MIN_VALUE;
    static final int MAX = Integer.MAX_VALUE;

    /** Known are as many WEIGHTS as came: none of a new object, six at most; which one is told by the argument at. */
    static void unknownWeights(Said said, long refusal, int at, String call, Object... given) {
        Run x = said.run();
        for (int k : new int[] {-1, 0, 1, MIN, MAX}) {
            x.refused(refusal, call, with(given, at, k));
        }
        for (int count = 1; count <= 6; count++) {
            x.due(count - 1, "weights", count % 3, 1, 2, 3);
            x.limits(refusal, 0, count - 1, at, call, given);
        }
    }

    static Object[] with(Object[] given, int at, Object value) {
        Object[] other = given.clone();
        other[at] = value;
        return other;
    }

    /** All but the first few of a row that tells a call. */
    static Object[] behind(Object[] row, int first) {
        return Arrays.copyOfRange(row, first, row.length);
    }
}
