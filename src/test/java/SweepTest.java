/** Every chain there is, every sector of it, every whole number asked for: held against the Model. */
public final class SweepTest {
    private static int wrong = 0;
    private static long asked = 0;
    private static int calls = 0;
    private static MagnetRows program = new MagnetRows();
    private static Model model = new Model();
    private static int n;
    private static boolean ring;
    private static int e;
    private static int d;

    public static void main(String[] args) {
        for (n = 2; n <= 8; n++) {
            for (int kind = 0; kind < 2; kind++) {
                ring = kind == 0;
                for (e = 1; e <= 4; e++) {
                    for (d = -2; d <= 2; d++) {
                        oneChain();
                    }
                }
            }
        }
        for (int a = -9; a <= 9; a += 3) {
            for (int b = -9; b <= 9; b += 6) {
                for (int c = -9; c <= 9; c += 9) {
                    oneIce(a, b, c);
                }
            }
        }
        System.out.println(asked + " answers, " + wrong + " not as due");
        System.exit(wrong == 0 ? 0 : 1);
    }

    /** An object is promised for 512 calls: then a new one goes on. */
    private static void ready() {
        if (calls >= 500) {
            fresh();
        }
        calls++;
    }

    private static void fresh() {
        program = new MagnetRows();
        program.chain(n, ring, e, d);
        calls = 1;
    }

    private static void due(String call, long got, long want) {
        asked++;
        if (got != want) {
            wrong++;
            if (wrong < 50) {
                System.out.println("chain " + n + " " + ring + " " + e + " " + d + ": " + call + " answered " + got
                    + ", due is " + want);
            }
        }
    }

    private static void oneChain() {
        model = new Model();
        model.chain(n, ring, e, d);
        fresh();
        for (int from = 0; from < 1 << n; from += n > 6 ? 5 : 1) {
            ready();
            due("turned " + from, program.turned(from), model.turned(from));
            for (int to = 0; to < 1 << n; to++) {
                ready();
                due("act " + from + " " + to, program.act(from, to), model.act(from, to));
            }
        }
        for (int m = 0; m <= n; m++) {
            for (int power = 1; power <= 4; power++) {
                ready();
                due("powerOf " + m + " " + power, program.powerOf(m, power), model.powerOf(m, power));
            }
            for (int sign = -1; sign <= 1; sign += 2) {
                oneSector(m, sign);
            }
        }
    }

    private static void oneSector(int m, int sign) {
        String where = m + " " + sign + " ";
        ready();
        int size = model.size(m, sign);
        due("size " + where, program.size(m, sign), size);
        ready();
        due("whole " + where, program.whole(m, sign), model.whole(m, sign));
        for (int i = -1; i <= size; i++) {
            ready();
            due("head " + where + i, program.head(m, sign, i), model.head(m, sign, i));
            for (int j = -1; j <= size; j++) {
                ready();
                due("entry " + where + i + " " + j, program.entry(m, sign, i, j), model.entry(m, sign, i, j));
            }
        }
        for (int k = -1; k <= size + 1; k++) {
            ready();
            due("poly " + where + k, program.poly(m, sign, k), model.poly(m, sign, k));
        }
        for (int power = 0; power <= 5; power++) {
            ready();
            due("power " + where + power, program.power(m, sign, power), model.power(m, sign, power));
        }
        for (int c = -51; c <= 51; c++) {
            oneNumber(m, sign, c, size);
        }
    }

    private static void oneNumber(int m, int sign, int c, int size) {
        String where = m + " " + sign + " " + c + " ";
        ready();
        due("above " + where, program.above(m, sign, c), model.above(m, sign, c));
        ready();
        due("often " + where, program.often(m, sign, c), model.often(m, sign, c));
        for (int i = -1; i <= size && i <= 10; i++) {
            ready();
            due("rest " + where + i, program.rest(m, sign, c, i), model.rest(m, sign, c, i));
        }
        for (int j = -1; j <= n; j++) {
            for (int which = 0; which < 2; which++) {
                ready();
                due("seen " + where + j + " " + which, program.seen(m, sign, c, 1, j, which),
                    model.seen(m, sign, c, 1, j, which));
            }
        }
    }

    private static void oneIce(int a, int b, int c) {
        program = new MagnetRows();
        model = new Model();
        for (int kind = 0; kind < 3; kind++) {
            due("weights", program.weights(kind, a, b, c), model.weights(kind, a, b, c));
        }
        due("weights", program.weights(0, 3, -2, 7), model.weights(0, 3, -2, 7));
        for (int k = 0; k < 3; k++) {
            for (int size = 1; size <= 6; size++) {
                due("walls " + a + " " + b + " " + c + " " + size, program.walls(k, size), model.walls(k, size));
            }
            for (int size = 2; size <= 6; size += 2) {
                int rows = 1 + Math.floorMod(a + b + size, 8);
                due("ice " + a + " " + b + " " + c + " " + size, program.ice(k, size, rows), model.ice(k, size, rows));
            }
            for (int l = 0; l < 4; l++) {
                due("unlike " + k + " " + l, program.unlike(k, l, 4), model.unlike(k, l, 4));
                due("exchange " + k + " " + l, program.exchange(k, l, 3), model.exchange(k, l, 3));
            }
        }
        due("unlike of 6", program.unlike(2, 3, 6), model.unlike(2, 3, 6));
    }
}
