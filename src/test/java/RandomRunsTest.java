import java.lang.reflect.InvocationTargetException;
import java.lang.reflect.Method;
import java.lang.reflect.Modifier;
import java.util.ArrayList;
import java.util.Arrays;
import java.util.Comparator;
import java.util.List;
import java.util.Random;

/** Runs of 512 calls with arguments good and bad, each answer held against the Model's. */
public final class RandomRunsTest {
    private static final int CALLS = 512;
    /** What a run is mostly about; "" is all. */
    private static final String[][] THEMES = {
        {},
        {"chain", "size", "head", "entry", "poly", "above", "often", "whole", "power", "powerOf", "rest", "seen"},
        {"weights", "weightsOf", "weight", "rowEntry", "exchange", "tell", "name", "as", "trace", "fault", "walls"},
        {"add", "add", "add", "add", "clear", "asChain", "join", "join", "shift", "word", "words", "bracket", "kept",
            "undo", "redo", "chain", "many"},
        {"add", "add", "add", "add", "add", "add", "word", "join", "bracket", "undo", "redo", "many"},
        {"sheet", "lose", "put", "put", "put", "cell", "copy", "copy", "weightsOf", "fault", "as"},
    };
    private static final int[] WILD = {
        Integer.MIN_VALUE, Integer.MIN_VALUE + 1, -1000001, -257, -256, -129, -51, -50, -11, -10, -9, -3, -2, -1, 0, 1,
        2, 3, 4, 5, 6, 7, 8, 9, 10, 50, 51, 59, 60, 61, 63, 64, 127, 128, 255, 256, 257, 32768, 65536, 1000000, 1000001,
        Integer.MAX_VALUE - 2, Integer.MAX_VALUE - 1, Integer.MAX_VALUE
    };
    private static int wrong = 0;
    private static long asked = 0;

    public static void main(String[] args) throws ReflectiveOperationException {
        int runs = args.length > 0 ? Integer.parseInt(args[0]) : 600;
        long from = args.length > 1 ? Long.parseLong(args[1]) : 1;
        List<Method> all = new ArrayList<>();
        for (Method method : MagnetRows.class.getDeclaredMethods()) {
            if (Modifier.isPublic(method.getModifiers())) {
                all.add(method);
            }
        }
        all.sort(Comparator.comparing(Method::getName));
        for (int run = 0; run < runs && wrong == 0; run++) {
            oneRun(all, THEMES[run % THEMES.length], new Random(from * 1000003L + run));
        }
        System.out.println(asked + " answers, " + wrong + " not as due");
        System.exit(wrong == 0 ? 0 : 1);
    }

    private static void oneRun(List<Method> all, String[] theme, Random dice) throws ReflectiveOperationException {
        MagnetRows program = new MagnetRows();
        Model model = new Model();
        List<String> told = new ArrayList<>();
        int wildness = dice.nextInt(4) == 0 ? 3 : 25;
        for (int call = 0; call < CALLS; call++) {
            Method method = pick(all, theme, dice);
            Object[] given = arguments(method, dice, wildness);
            Object want = Model.class.getMethod(method.getName(), method.getParameterTypes()).invoke(model, given);
            Object got;
            try {
                got = method.invoke(program, given);
            } catch (InvocationTargetException thrown) {
                got = thrown.getCause();
            }
            asked++;
            told.add(method.getName() + Arrays.toString(given) + " -> " + got);
            if (!want.equals(got)) {
                wrong++;
                for (String line : told) {
                    System.out.println(line);
                }
                System.out.println("the last one is wrong: due is " + want);
                return;
            }
        }
    }

    private static Method pick(List<Method> all, String[] theme, Random dice) {
        while (true) {
            Method method = all.get(dice.nextInt(all.size()));
            if (theme.length > 0 && dice.nextInt(12) > 0) {
                String name = theme[dice.nextInt(theme.length)];
                for (Method one : all) {
                    if (one.getName().equals(name)) {
                        method = one;
                    }
                }
            }
            boolean dear = method.getName().equals("ice") || method.getName().equals("unlike");
            if (!dear || dice.nextInt(8) == 0) {
                return method;
            }
        }
    }

    private static Object[] arguments(Method method, Random dice, int wildness) {
        Object[] given = new Object[method.getParameterCount()];
        for (int i = 0; i < given.length; i++) {
            if (method.getParameterTypes()[i] == boolean.class) {
                given[i] = dice.nextBoolean();
            } else if (dice.nextInt(wildness) == 0) {
                given[i] = WILD[dice.nextInt(WILD.length)];
            } else {
                given[i] = likely(method.getName(), i, dice);
            }
        }
        return given;
    }

    private static int between(Random dice, int low, int high) {
        return low + dice.nextInt(high - low + 1);
    }

    /** Mostly an argument that is taken. */
    private static int likely(String name, int i, Random dice) {
        switch (name) {
            case "chain": return i == 0 ? between(dice, 2, 8) : i == 2 ? between(dice, 1, 4) : between(dice, -2, 2);
            case "act": case "turned": return between(dice, 0, 63);
            case "size": case "head": case "entry": case "poly": case "above": case "often": case "whole":
            case "power": case "rest": case "seen":
                return sectorArgument(name, i, dice);
            case "powerOf": return i == 0 ? between(dice, 0, 6) : between(dice, 1, 4);
            case "weights": return i == 0 ? between(dice, 0, 2) : between(dice, -9, 9);
            case "weightsOf": return i == 0 || i == 2 ? between(dice, 0, 2) : between(dice, 0, 3);
            case "weight": return between(dice, 0, 3);
            case "rowEntry": return i == 0 ? between(dice, 0, 3) : i == 1 ? between(dice, 2, 6) : between(dice, 0, 63);
            case "unlike": return i < 2 ? between(dice, 0, 5) : between(dice, 2, dice.nextInt(10) == 0 ? 6 : 4);
            case "ice": return i == 0 ? between(dice, 0, 5) : i == 1 ? between(dice, 2, 6) : between(dice, 1, 8);
            case "walls": return i == 0 ? between(dice, 0, 5) : between(dice, 1, 6);
            case "exchange": case "tell": case "name": return between(dice, 0, 5);
            case "as": return i == 0 ? between(dice, 0, 5) : between(dice, 0, 2);
            case "add": return addArgument(i, dice);
            case "word": return i == 1 ? between(dice, 0, dice.nextInt(61)) : between(dice, 0, 3);
            case "shift": return i == 2 ? between(dice, 0, 7) : between(dice, 0, 3);
            case "sheet": return i == 1 ? between(dice, 0, 2) : i == 0 ? between(dice, 0, 3) : between(dice, -1, 12);
            case "put": return i == 0 ? between(dice, 0, 3) : i == 1 ? between(dice, 0, 8) : between(dice, -12, 12);
            case "cell": return i == 1 ? between(dice, 0, 8) : i == 0 ? between(dice, 0, 3) : between(dice, 0, 2);
            case "copy": return i == 0 || i == 2 ? between(dice, 0, 3) : between(dice, 0, 6);
            case "many": return between(dice, 0, 7);
            default: return between(dice, 0, 3);
        }
    }

    private static int sectorArgument(String name, int i, Random dice) {
        if (i == 0) {
            return between(dice, 0, 6);
        }
        if (i == 1) {
            return dice.nextInt(3) == 0 ? -1 : 1;
        }
        boolean byNumber = name.equals("above") || name.equals("often") || name.equals("rest") || name.equals("seen");
        if (i == 2 && byNumber) {
            return between(dice, -16, 16);
        }
        return name.equals("seen") && i == 5 ? between(dice, 0, 1) : between(dice, 0, 5);
    }

    private static int addArgument(int i, Random dice) {
        if (i == 0) {
            return between(dice, 0, 3);
        }
        if (i < 3) {
            int kind = dice.nextInt(4);
            return kind == 0 ? between(dice, 0, 255) : kind == 1 ? 1 << dice.nextInt(8) : between(dice, 0, 15);
        }
        return dice.nextInt(20) == 0 ? between(dice, -1000000, 1000000) : between(dice, -3, 3);
    }
}
