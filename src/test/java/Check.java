/** Counts answers that are not as due, and prints them. */
final class Check {
    static final long LOST = MagnetRows.LOST;
    private int wrong = 0;
    private int asked = 0;

    void due(String call, long got, long want) {
        asked++;
        if (got != want) {
            wrong++;
            System.out.println(call + " answered " + got + ", due is " + want);
        }
    }

    /** All that many() tells, the words of all SUMS and TRACE: the same before and behind a call that changes nothing. */
    static String state(MagnetRows x) {
        StringBuilder text = new StringBuilder();
        for (int what = 0; what < 8; what++) {
            text.append(x.many(what)).append(' ');
        }
        for (int k = 0; k < 4; k++) {
            text.append("| ");
            for (int i = 0; i < x.words(k); i++) {
                for (int what = 0; what < 4; what++) {
                    text.append(x.word(k, i, what)).append(' ');
                }
            }
        }
        return text.append("| ").append(x.trace()).toString();
    }

    void same(String what, String got, String want) {
        asked++;
        if (!got.equals(want)) {
            wrong++;
            System.out.println(what + ": it is " + got + ", due is " + want);
        }
    }

    /** Ends the test, with exit code 1 if an answer was not as due. */
    void end() {
        System.out.println(asked + " answers, " + wrong + " not as due");
        System.exit(wrong == 0 && asked > 0 ? 0 : 1);
    }
}
