import java.lang.reflect.InvocationTargetException;
import java.lang.reflect.Method;
import java.lang.reflect.Modifier;
import java.util.ArrayList;
import java.util.Arrays;
import java.util.HashMap;
import java.util.List;
import java.util.Map;
import java.util.Set;

/**
 * A run of calls on a new object. It is kept, so that it can be done again on other objects: on these is seen what a
 * call has changed, without spending the 512 calls of this one.
 */
final class Run {
    private static final int MOST_CALLS = 512;
    /** So many calls more are needed at most to look at one part of an object. */
    private static final int TO_LOOK = 270;
    private static final Set<String> NAME_FAULTS = Set.of("weightsOf", "sheet", "put", "cell", "copy", "as");
    private static final Map<String, Method> FACE = new HashMap<>();

    static {
        for (Method method : MagnetRows.class.getDeclaredMethods()) {
            if (Modifier.isPublic(method.getModifiers())) {
                FACE.put(method.getName(), method);
            }
        }
    }

    private record Call(String name, Object... given) {
        String text() {
            String list = Arrays.toString(given);
            return name + "(" + list.substring(1, list.length() - 1) + ")";
        }

        boolean answersLong() {
            return FACE.get(name).getReturnType() == long.class;
        }
    }

    private final Said said;
    private final MagnetRows object = new MagnetRows();
    private final List<Call> calls = new ArrayList<>();
    private int asked = 0;
    /** How an object behind all calls looks; null: it has not been looked at since the latest one. */
    private String looks = null;

    Run(Said said) {
        this.said = said;
    }

    /** A call is made, and its answer is due. */
    void due(long want, String name, Object... given) {
        Call call = new Call(name, given);
        said.due(behind(call), onward(call), want);
    }

    /** A call that is not refused, whatever it answers. */
    void made(String name, Object... given) {
        Call call = new Call(name, given);
        long got = onward(call);
        said.holds(behind(call) + " answered " + got + ": it is refused", got >= 0);
    }

    /** A call is made; what it answers is for the test to look at. */
    long answer(String name, Object... given) {
        return onward(new Call(name, given));
    }

    private long onward(Call call) {
        long got = ask(object, call);
        spend();
        calls.add(call);
        looks = null;
        return got;
    }

    /** Such an answer, and nothing has changed behind it. */
    void told(long want, String name, Object... given) {
        unchanged(want, 0, new Call(name, given));
    }

    /** Such a refusal: nothing has changed behind it but fault(), of a call that names FAULTS. */
    void refused(long want, String name, Object... given) {
        unchanged(want, 0, new Call(name, given));
    }

    /** Such a FAULT: it is answered, fault() tells it, nothing else has changed behind it. */
    void faulted(int fault, String name, Object... given) {
        Call call = new Call(name, given);
        unchanged(call.answersLong() ? MagnetRows.LOST : -10 - fault, fault, call);
    }

    /** One argument is taken from low to high, and refused just beyond and far beyond. */
    void limits(long refusal, int low, int high, int at, String name, Object... given) {
        for (int value = low; value <= high; value++) {
            taken(at, value, name, given);
        }
        for (int value : new int[] {low - 1, high + 1, Integer.MIN_VALUE, Integer.MAX_VALUE}) {
            refused(refusal, name, Edges.with(given, at, value));
        }
    }

    /** One argument is taken, told on an object like this one. */
    void taken(int at, int value, String name, Object... given) {
        Call call = new Call(name, Edges.with(given, at, value));
        long got = ask(again(), call);
        boolean refused = call.answersLong() ? got == MagnetRows.LOST : got < 0;
        said.holds(behind(call) + " answered " + got + ": it is refused", !refused);
    }

    private void unchanged(long want, int fault, Call call) {
        for (int ahead = 0; ahead <= 4; ahead += 4) {
            MagnetRows other = again();
            // Both change nothing but fault(): the first is refused, the second comes to SIZE.
            ask(other, ahead == 0 ? new Call("as", -1, 0) : new Call("sheet", 0, 0, -1));
            said.due(behind(call), ask(other, call), want);
            int then = NAME_FAULTS.contains(call.name) ? fault : ahead;
            said.due(behind(call) + ", then fault()", other.fault(), then);
        }
        if (looks == null) {
            looks = look();
        }
        said.same(behind(call) + " has changed something", look(call), looks);
        // This object has had other calls that changed nothing: the answer may not hang on them.
        said.due(behind(call) + ", behind others", ask(object, call), want);
        spend();
    }

    private void spend() {
        asked++;
        if (asked > MOST_CALLS) {
            throw new IllegalStateException("a run of more than 512 calls: nothing is promised");
        }
    }

    private String behind(Call call) {
        StringBuilder text = new StringBuilder();
        int from = Math.max(0, calls.size() - 12);
        text.append(from == 0 ? "new" : ".. " + from + " calls").append("; ");
        for (Call one : calls.subList(from, calls.size())) {
            text.append(one.text()).append("; ");
        }
        return text.append(call.text()).toString();
    }

    private long ask(MagnetRows x, Call call) {
        try {
            return ((Number) FACE.get(call.name).invoke(x, call.given)).longValue();
        } catch (InvocationTargetException thrown) {
            said.holds(behind(call) + " threw " + thrown.getCause(), false);
            return Long.MAX_VALUE;
        } catch (IllegalAccessException closed) {
            throw new IllegalStateException(closed);
        }
    }

    /** Another object behind the same calls, and some more. */
    private MagnetRows again(Call... more) {
        if (calls.size() + TO_LOOK > MOST_CALLS) {
            throw new IllegalStateException("a run too long to be looked at");
        }
        MagnetRows x = new MagnetRows();
        for (Call call : calls) {
            ask(x, call);
        }
        for (Call call : more) {
            ask(x, call);
        }
        return x;
    }

    /** THE CHAIN and all SUMS as they are. */
    String moment() {
        StringBuilder text = new StringBuilder();
        for (int k = 0; k < 4; k++) {
            text.append(sumAt(again(), 0, k));
        }
        return text.toString();
    }

    /** All that can be seen of an object behind the calls and some more, fault() apart. */
    private String look(Call... more) {
        MagnetRows x = again(more);
        StringBuilder text = new StringBuilder("trace ").append(x.trace()).append(" many");
        for (int what = 0; what < 8; what++) {
            text.append(' ').append(x.many(what));
        }
        for (int k = 0; k < 6; k++) {
            text.append(" weights");
            for (int what = 0; what < 4; what++) {
                text.append(' ').append(x.weight(k, what));
            }
        }
        for (int k = 0; k < 4; k++) {
            text.append(sheetOf(again(more), k));
        }
        int undone = x.many(6);
        int redone = x.many(7);
        for (int step = -undone; step <= redone; step++) {
            text.append(" moment ").append(step);
            for (int k = 0; k < 4; k++) {
                text.append(sumAt(again(more), step, k));
            }
        }
        return text.toString();
    }

    private static String sheetOf(MagnetRows x, int k) {
        StringBuilder text = new StringBuilder(" sheet");
        for (int lane = 0; lane < 3; lane++) {
            x.cell(k, -1, lane);
            text.append(' ').append(x.fault());
            for (int i = 0; i <= 60; i++) {
                long cell = x.cell(k, i, lane);
                if (cell == MagnetRows.LOST) {
                    break;
                }
                text.append(' ').append(cell);
            }
        }
        return text.toString();
    }

    /** THE CHAIN and a SUM, so many acts back or forth. */
    private static String sumAt(MagnetRows x, int step, int k) {
        for (int back = 0; back > step; back--) {
            x.undo();
        }
        for (int forth = 0; forth < step; forth++) {
            x.redo();
        }
        StringBuilder text = new StringBuilder(" chain");
        for (int what = 0; what < 4; what++) {
            text.append(' ').append(x.many(what));
        }
        text.append(" sum ");
        int words = x.words(k);
        for (int i = 0; i < words; i++) {
            for (int what = 0; what < 4; what++) {
                text.append(' ').append(x.word(k, i, what));
            }
        }
        return text.toString();
    }
}
