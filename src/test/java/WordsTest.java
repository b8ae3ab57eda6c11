/** Promises 24 to 34: sums of words, undone and done again. */
public final class WordsTest {
    private static final Check CHECK = new Check();
    private static final long LOST = MagnetRows.LOST;
    private static final int ACTS = 7;
    private static final int[] X = {0, 1, 1, 0};
    private static final int[] Z = {0, 0, 1, 1};

    public static void main(String[] args) {
        adding();
        addingRefused();
        addingSpent();
        clearing();
        chainsAsSums();
        letters();
        joining();
        joiningRefused();
        joiningSpent();
        shifting();
        shiftingRefused();
        wordsTold();
        brackets();
        keeping();
        undoing();
        undoingTwenty();
        undoingAll();
        CHECK.end();
    }

    private static void due(String call, long got, long want) {
        CHECK.due(call, got, want);
    }

    private static void dueWord(MagnetRows x, String call, int k, int i, long... want) {
        for (int what = 0; what < 4; what++) {
            due(call + " word " + k + " " + i + " " + what, x.word(k, i, what), want[what]);
        }
    }

    private static void adding() {
        MagnetRows x = new MagnetRows();
        due("24 add", x.add(0, 255, 255, 1000000, -1000000), 1);
        due("24 add", x.add(0, 255, 0, 1, 0), 2);
        due("24 add", x.add(0, 0, 255, 0, 2), 3);
        due("24 add", x.add(0, 0, 0, 7, 8), 4);
        dueWord(x, "24 by x, then by z", 0, 0, 0, 0, 7, 8);
        dueWord(x, "24 by x, then by z", 0, 1, 0, 255, 0, 2);
        dueWord(x, "24 by x, then by z", 0, 2, 255, 0, 1, 0);
        dueWord(x, "24 by x, then by z", 0, 3, 255, 255, 1000000, -1000000);
        due("24 more of one", x.add(0, 0, 0, -3, 1), 4);
        dueWord(x, "24 more of one", 0, 0, 0, 0, 4, 9);
        due("24 one of both 0 stays", x.add(0, 0, 0, -4, 0), 4);
        due("24 both 0", x.add(0, 0, 0, 0, -9), 3);
        due("24 nothing more", x.add(0, 5, 5, 0, 0), 3);
        due("24 down to the limit", x.add(0, 255, 255, -2000000, 2000000), 3);
        dueWord(x, "24 down to the limit", 0, 2, 255, 255, -1000000, 1000000);
        due("24 others are as they were", x.words(1) + x.words(2) + x.words(3), 0);
    }

    private static void addingRefused() {
        MagnetRows x = new MagnetRows();
        x.add(0, 1, 1, 1, 1);
        String was = Check.state(x);
        due("24 unknown first", x.add(4, 256, 0, 2000000, 0), -1);
        due("24 unknown", x.add(-1, 0, 0, 1, 0), -1);
        due("24 outside ahead of spent", x.add(0, 256, 0, 2000000, 0), -2);
        due("24 outside", x.add(0, -1, 0, 1, 0), -2);
        due("24 outside", x.add(0, 0, 256, 1, 0), -2);
        due("24 outside", x.add(0, 0, -1, 1, 0), -2);
        due("24 spent", x.add(0, 0, 0, 1000001, 0), -6);
        due("24 spent", x.add(0, 0, 0, 0, -1000001), -6);
        due("24 spent", x.add(0, 1, 1, 1000000, 0), -6);
        due("24 spent", x.add(0, 1, 1, Integer.MAX_VALUE, 0), -6);
        due("24 spent", x.add(0, 1, 1, 0, Integer.MIN_VALUE), -6);
        CHECK.same("24 nothing has changed", Check.state(x), was);
    }

    private static void addingSpent() {
        MagnetRows x = new MagnetRows();
        for (int i = 0; i < 60; i++) {
            due("24 up to 60", x.add(3, i, 255 - i, 1, 0), i + 1);
        }
        due("24 the 61st", x.add(3, 60, 0, 1, 0), -6);
        due("24 the 61st of nothing", x.add(3, 60, 0, 0, 0), 60);
        due("24 more of one", x.add(3, 59, 196, 1, 0), 60);
        due("24 one less", x.add(3, 59, 196, -2, 0), 59);
        due("24 room again", x.add(3, 60, 0, 1, 0), 60);
    }

    private static void clearing() {
        MagnetRows x = new MagnetRows();
        x.add(2, 1, 0, 1, 0);
        x.add(2, 2, 0, 1, 0);
        due("25 how many it had", x.clear(2), 2);
        due("25 empty", x.words(2), 0);
        due("25 none", x.clear(2), 0);
        due("25 each is an act", x.many(6), 4);
        due("25 unknown", x.clear(4), -1);
        due("25 unknown", x.clear(-1), -1);
        due("25 not an act", x.many(6), 4);
    }

    private static void chainsAsSums() {
        MagnetRows x = new MagnetRows();
        x.chain(2, true, 3, -2);
        due("26 the pair twice", x.asChain(0), 3);
        dueWord(x, "26 z z", 0, 0, 0, 3, -8, 0);
        dueWord(x, "26 x x", 0, 1, 3, 0, 6, 0);
        dueWord(x, "26 y y", 0, 2, 3, 3, 6, 0);
        x.chain(3, true, 1, 1);
        due("26 a ring of 3", x.asChain(0), 9);
        int[] bits = {3, 5, 6};
        for (int i = 0; i < 3; i++) {
            dueWord(x, "26 z z", 0, i, 0, bits[i], 2, 0);
            dueWord(x, "26 x x", 0, 3 + 2 * i, bits[i], 0, 1, 0);
            dueWord(x, "26 y y", 0, 4 + 2 * i, bits[i], bits[i], 1, 0);
        }
        x.chain(8, false, 4, 0);
        due("26 open, no z z", x.asChain(0), 14);
        x.chain(8, true, 4, 2);
        due("26 all", x.asChain(1), 24);
        dueWord(x, "26 around", 1, 6, 0, 129, 4, 0);
        due("26 unknown", x.asChain(4), -1);
        due("26 unknown", x.asChain(-1), -1);
    }

    /** All sixteen products of letters at one PLACE. */
    private static void letters() {
        int[][] letter = {{0, 1, 2, 3}, {1, 0, 3, 2}, {2, 3, 0, 1}, {3, 2, 1, 0}};
        int[][] turns = {{0, 0, 0, 0}, {0, 0, 1, -1}, {0, -1, 0, 1}, {0, 1, -1, 0}};
        for (int place = 0; place < 8; place += 7) {
            for (int p = 0; p < 4; p++) {
                MagnetRows x = new MagnetRows();
                for (int q = 0; q < 4; q++) {
                    x.clear(0);
                    x.clear(1);
                    x.add(0, X[p] << place, Z[p] << place, 1, 0);
                    x.add(1, X[q] << place, Z[q] << place, 1, 0);
                    due("27 letters", x.join(2, 0, 1, 0), 1);
                    int out = letter[p][q];
                    int turn = turns[p][q];
                    dueWord(x, "27 letters " + p + q, 2, 0, X[out] << place, Z[out] << place, turn == 0 ? 1 : 0, turn);
                    due("31 letters", x.bracket(0, 1), turn == 0 ? 0 : 1);
                }
            }
        }
    }

    private static void joining() {
        MagnetRows x = new MagnetRows();
        // (2 + 3i) X of place 0 and Z of place 1; (1 - i) Y of place 0.
        x.add(0, 1, 0, 2, 3);
        x.add(0, 0, 2, 1, 0);
        x.add(1, 1, 1, 1, -1);
        due("27 product", x.join(2, 0, 1, 0), 2);
        // X Y is i Z: i (2 + 3i) (1 - i) is i (5 + i), which is -1 + 5i.
        dueWord(x, "27 product", 2, 0, 0, 1, -1, 5);
        dueWord(x, "27 product", 2, 1, 1, 3, 1, -1);
        due("27 bracket", x.join(2, 0, 1, 1), 1);
        dueWord(x, "27 bracket", 2, 0, 0, 1, -2, 10);
        due("27 the other way", x.join(2, 1, 0, 1), 1);
        dueWord(x, "27 the other way", 2, 0, 0, 1, 2, -10);
        due("27 added", x.join(3, 0, 1, 2), 3);
        dueWord(x, "27 added", 3, 1, 1, 0, 2, 3);
        dueWord(x, "27 added", 3, 2, 1, 1, 1, -1);
        due("27 taken off", x.join(3, 3, 0, 3), 1);
        dueWord(x, "27 taken off", 3, 0, 1, 1, 1, -1);
        due("27 taken off nothing", x.join(3, 3, 0, 3), 3);
        dueWord(x, "27 taken off nothing", 3, 0, 0, 2, -1, 0);
        dueWord(x, "27 taken off nothing", 3, 1, 1, 0, -2, -3);
        due("27 itself", x.join(1, 1, 1, 0), 1);
        dueWord(x, "27 itself", 1, 0, 0, 0, 0, -2);
        due("27 itself off", x.join(1, 1, 1, 3), 0);
        due("27 by nothing", x.join(1, 0, 1, 0), 0);
    }

    private static void joiningRefused() {
        MagnetRows x = new MagnetRows();
        x.add(0, 1, 0, 1000000, 0);
        x.add(1, 1, 0, 1, 1);
        String was = Check.state(x);
        due("27 unknown first", x.join(4, 0, 0, 4), -1);
        due("27 unknown", x.join(0, 4, 0, 0), -1);
        due("27 unknown", x.join(0, 0, 4, 0), -1);
        due("27 unknown", x.join(-1, 0, 0, 0), -1);
        due("27 unknown", x.join(0, -1, 0, 0), -1);
        due("27 unknown", x.join(0, 0, -1, 0), -1);
        due("27 outside", x.join(0, 0, 0, 4), -2);
        due("27 outside", x.join(0, 0, 0, -1), -2);
        due("27 spent", x.join(2, 0, 0, 0), -6);
        due("27 spent", x.join(2, 0, 0, 2), -6);
        due("27 spent", x.join(2, 0, 1, 2), -6);
        CHECK.same("27 nothing has changed", Check.state(x), was);
        due("27 not spent", x.join(2, 0, 1, 3), 1);
        dueWord(x, "27 not spent", 2, 0, 1, 0, 999999, -1);
        due("27 not spent", x.join(2, 0, 1, 0), 1);
        dueWord(x, "27 not spent", 2, 0, 0, 0, 1000000, 1000000);
    }

    private static void joiningSpent() {
        MagnetRows x = new MagnetRows();
        for (int i = 0; i < 30; i++) {
            x.add(0, i, 0, 1, 0);
            x.add(1, 0, i + 1, 1, 0);
        }
        due("27 60 words", x.join(2, 0, 1, 2), 60);
        x.add(0, 200, 200, 1, 0);
        due("27 61 words", x.join(2, 0, 1, 2), -6);
        due("27 61 words", x.join(2, 0, 1, 3), -6);
        due("27 930 words", x.join(2, 0, 1, 0), -6);
        due("27 60 words stay", x.words(2), 60);
        due("27 more than 60 between, fewer at last", x.join(2, 2, 2, 1), x.bracket(2, 2));
        due("27 none at last", x.words(2), 0);
    }

    private static void shifting() {
        MagnetRows x = new MagnetRows();
        x.chain(5, false, 1, 0);
        x.add(0, 1, 16, 1, 2);
        x.add(0, 24, 24, 3, 4);
        due("28 by 0", x.shift(1, 0, 0), 2);
        dueWord(x, "28 by 0", 1, 0, 1, 16, 1, 2);
        due("28 by 1", x.shift(1, 0, 1), 2);
        dueWord(x, "28 by 1", 1, 0, 2, 1, 1, 2);
        dueWord(x, "28 by 1", 1, 1, 17, 17, 3, 4);
        due("28 by 4: the order is another", x.shift(1, 0, 4), 2);
        dueWord(x, "28 by 4", 1, 0, 12, 12, 3, 4);
        dueWord(x, "28 by 4", 1, 1, 16, 8, 1, 2);
        due("28 by 7 is by 2", x.shift(0, 0, 7), 2);
        dueWord(x, "28 by 7", 0, 0, 3, 3, 3, 4);
        dueWord(x, "28 by 7", 0, 1, 4, 2, 1, 2);
        due("28 none", x.shift(2, 3, 7), 0);
        x.chain(2, true, 1, 0);
        x.clear(0);
        x.add(0, 1, 2, 1, 0);
        due("28 of 2 by 7", x.shift(0, 0, 7), 1);
        dueWord(x, "28 of 2 by 7", 0, 0, 2, 1, 1, 0);
        x.chain(8, true, 1, 0);
        x.add(0, 128, 64, 1, 0);
        due("28 of 8 by 7", x.shift(0, 0, 7), 2);
        dueWord(x, "28 of 8 by 7", 0, 0, 1, 128, 1, 0);
        dueWord(x, "28 of 8 by 7", 0, 1, 64, 32, 1, 0);
    }

    private static void shiftingRefused() {
        MagnetRows x = new MagnetRows();
        x.add(0, 32, 32, 1, 0);
        x.add(1, 64, 0, 1, 0);
        x.add(2, 0, 64, 1, 0);
        String was = Check.state(x);
        due("28 unknown first", x.shift(4, 0, 8), -1);
        due("28 unknown", x.shift(0, 4, 0), -1);
        due("28 unknown", x.shift(-1, 0, 0), -1);
        due("28 unknown", x.shift(0, -1, 0), -1);
        due("28 outside ahead of state", x.shift(0, 1, 8), -2);
        due("28 outside", x.shift(0, 0, -1), -2);
        due("28 a letter beyond", x.shift(0, 1, 1), -3);
        due("28 a letter beyond", x.shift(0, 2, 1), -3);
        due("28 a letter beyond, by 0 too", x.shift(0, 2, 0), -3);
        CHECK.same("28 nothing has changed", Check.state(x), was);
        due("28 the last place is not beyond", x.shift(1, 0, 1), 1);
        dueWord(x, "28 the last place", 1, 0, 1, 1, 1, 0);
    }

    private static void wordsTold() {
        MagnetRows x = new MagnetRows();
        x.add(3, 200, 100, -5, 6);
        dueWord(x, "29", 3, 0, 200, 100, -5, 6);
        due("29 unknown", x.word(4, 0, 0), LOST);
        due("29 unknown", x.word(-1, 0, 0), LOST);
        due("29 unknown", x.word(3, 1, 0), LOST);
        due("29 unknown", x.word(3, -1, 0), LOST);
        due("29 outside", x.word(3, 0, 4), LOST);
        due("29 outside", x.word(3, 0, -1), LOST);
        due("30 words", x.words(3), 1);
        due("30 words", x.words(0), 0);
        due("30 unknown", x.words(4), -1);
        due("30 unknown", x.words(-1), -1);
    }

    private static void brackets() {
        MagnetRows x = new MagnetRows();
        due("31 unknown", x.bracket(4, 0), -1);
        due("31 unknown", x.bracket(0, 4), -1);
        due("31 unknown", x.bracket(-1, 0), -1);
        due("31 unknown", x.bracket(0, -1), -1);
        due("31 of none", x.bracket(0, 1), 0);
        // X of place 7 and some of 0 to 4 against Z of place 7 and some of 5 and 6: each product is another word.
        for (int i = 0; i < 20; i++) {
            x.add(0, 128 + i, 0, 1000000, 1000000);
        }
        for (int i = 0; i < 4; i++) {
            x.add(1, 0, 128 + 32 * i, 1000000, 1000000);
        }
        due("31 more than 60, of any size", x.bracket(0, 1), 80);
        due("31 the other way", x.bracket(1, 0), 80);
        due("31 nothing is an act", x.many(6), 20);
        due("27 spent", x.join(2, 0, 1, 1), -6);
    }

    private static void keeping() {
        MagnetRows x = new MagnetRows();
        due("32 nothing is kept", x.kept(0), 1);
        // How many point up, but not where.
        for (int place = 0; place < 6; place++) {
            x.add(0, 0, 1 << place, 1, 0);
        }
        due("32 kept", x.kept(0), 1);
        x.add(1, 0, 1, 1, 0);
        due("32 not kept", x.kept(1), 0);
        x.add(2, 128, 64, 1, 0);
        due("32 letters beyond are kept", x.kept(2), 1);
        x.add(3, 0, 0, 5, 5);
        due("32 a number is kept", x.kept(3), 1);
        // All X together: kept only where swap and bent make one kind of pair.
        x.clear(0);
        for (int place = 0; place < 6; place++) {
            x.add(0, 1 << place, 0, 1, 0);
        }
        due("32 e is 2 d", x.kept(0), 1);
        x.chain(6, true, 1, 1);
        due("32 e is not 2 d", x.kept(0), 0);
        x.chain(5, true, 2, 1);
        due("32 one place left out", x.kept(0), 1);
        x.chain(7, true, 2, 1);
        due("32 one place too many", x.kept(0), 0);
        due("32 unknown", x.kept(4), -1);
        due("32 unknown", x.kept(-1), -1);
    }

    private static void undoing() {
        for (int ahead = 0; ahead < ACTS; ahead++) {
            MagnetRows x = after(ACTS);
            due("33 how many", x.many(6), ACTS);
            for (int left = ACTS - 1; left >= ahead; left--) {
                due("33 undo", x.undo(), left);
            }
            due("34 how many", x.many(7), ACTS - ahead);
            CHECK.same("33 as it was ahead of act " + ahead, sums(x), sums(after(ahead)));
            due("34 redo", x.redo(), ahead + 1);
            CHECK.same("34 as it was behind act " + ahead, sums(x), sums(after(ahead + 1)));
        }
        MagnetRows x = after(0);
        due("33 none", x.undo(), -3);
        due("34 none", x.redo(), -3);
        x = after(ACTS);
        due("34 none", x.redo(), -3);
        due("33 undo", x.undo(), ACTS - 1);
        due("34 a refused act", x.chain(9, true, 1, 1), -2);
        due("34 a refused act", x.add(0, 0, 0, 1000001, 0), -6);
        due("34 stays", x.many(7), 1);
        due("34 another act", x.clear(3), 1);
        due("34 none", x.redo(), -3);
        due("34 none", x.many(7), 0);
        due("34 how many", x.many(6), ACTS);
    }

    /** A new object behind so many acts. */
    private static MagnetRows after(int acts) {
        MagnetRows x = new MagnetRows();
        for (int act = 0; act < acts; act++) {
            due("33 not refused", oneAct(x, act) >= 0 ? 1 : 0, 1);
        }
        return x;
    }

    /** One of each kind. */
    private static int oneAct(MagnetRows x, int act) {
        switch (act) {
            case 0: return x.add(0, 1, 2, 3, 4);
            case 1: return x.chain(7, false, 3, -1);
            case 2: return x.asChain(1);
            case 3: return x.join(2, 0, 1, 0);
            case 4: return x.shift(3, 0, 3);
            case 5: return x.clear(0);
            default: return x.chain(3, true, 1, 0);
        }
    }

    /** The chain and the sums: what is undone. */
    private static String sums(MagnetRows x) {
        String all = Check.state(x);
        return x.many(0) + " " + x.many(1) + " " + x.many(2) + " " + x.many(3) + all.substring(all.indexOf('|'));
    }

    private static void undoingTwenty() {
        MagnetRows x = new MagnetRows();
        for (int act = 1; act <= 45; act++) {
            due("33 act", x.add(0, 0, 0, 1, 0), 1);
            due("33 at most 20", x.many(6), Math.min(act, 20));
        }
        for (int left = 19; left >= 0; left--) {
            due("33 undo", x.undo(), left);
            due("33 as it was", x.word(0, 0, 2), 25 + left);
        }
        due("33 none", x.undo(), -3);
        due("33 as it was", x.word(0, 0, 2), 25);
        for (int done = 1; done <= 20; done++) {
            due("34 redo", x.redo(), done);
            due("34 as it was", x.word(0, 0, 2), 25 + done);
        }
        due("34 none", x.redo(), -3);
        due("33 one more", x.clear(0), 1);
        due("33 at most 20", x.many(6), 20);
        due("33 undo", x.undo(), 19);
        due("33 as it was", x.word(0, 0, 2), 45);
    }

    /** What may not be undone stays. */
    private static void undoingAll() {
        MagnetRows x = new MagnetRows();
        x.add(0, 1, 0, 1, 0);
        x.weights(2, 1, 2, 3);
        x.sheet(0, 2, 3);
        x.put(0, 1, 77);
        x.tell(0);
        int trace = x.trace();
        due("33 only one act", x.many(6), 1);
        due("33 undo", x.undo(), 0);
        due("33 weights stay", x.many(5), 1);
        due("33 weights stay", x.weight(0, 2), -3);
        due("33 sheets stay", x.cell(0, 1, 2), 77);
        due("33 trace stays", x.trace(), trace);
        due("34 none of these ends it", x.redo(), 1);
        due("34 as it was", x.words(0), 1);
    }
}
