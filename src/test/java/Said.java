import java.util.ArrayList;
import java.util.LinkedHashMap;
import java.util.List;
import java.util.Map;

/** Sentences of the document, each with a test of its own: what is asked under each, and whether it holds. */
final class Said {
    /** What is asked to see whether a sentence holds. */
    interface Test {
        void ask(Said said);
    }

    private final boolean asking;
    private final Map<String, List<String>> quotes = new LinkedHashMap<>();
    private String section = "";
    private String sentence = "";
    private int sentences = 0;
    private int asked = 0;
    private int wrong = 0;

    /** Not asking: the sentences are only gathered. */
    Said(boolean asking) {
        this.asking = asking;
    }

    /** Asks all that a test tells, then ends with exit code 1 if a sentence does not hold. */
    static void ask(Test tells) {
        Said said = new Said(true);
        tells.ask(said);
        said.end();
    }

    /** The heading under which the sentences that come stand in the document. */
    void section(String heading) {
        section = heading;
        quotes.computeIfAbsent(heading, none -> new ArrayList<>());
    }

    void says(String words, Test test) {
        quotes.get(section).add(words);
        sentences++;
        if (!asking) {
            return;
        }
        sentence = words;
        int before = asked;
        test.ask(this);
        if (asked == before) {
            fail("nothing was asked");
        }
    }

    Map<String, List<String>> quotes() {
        return quotes;
    }

    /** A new object. */
    Run run() {
        return new Run(this);
    }

    /** A new object with THE CHAIN made so. */
    Run chain(int n, boolean ring, int e, int d) {
        Run x = run();
        x.due(1L << n, "chain", n, ring, e, d);
        return x;
    }

    /** An object of which all is in use: acts to be undone and done again, WEIGHTS of each kind, SHEETS, TRACE. */
    Run full() {
        Run x = chain(5, false, 3, -1);
        x.made("add", 0, 1, 2, 3, 4);
        x.made("add", 0, 16, 0, 5, 0);
        x.made("asChain", 1);
        x.made("add", 2, 32, 32, 1000000, 7);
        x.made("shift", 3, 0, 1);
        x.made("clear", 0);
        x.made("chain", 4, true, 1, 2);
        x.made("undo");
        x.made("undo");
        x.made("weights", 0, 1, 2, 3);
        x.made("weights", 1, 4, -5, 6);
        x.made("weights", 2, 7, 8, -9);
        x.made("sheet", 0, 0, 3);
        x.made("put", 0, 1, 100);
        x.made("sheet", 1, 1, 4);
        x.made("put", 1, 0, 10);
        x.made("put", 1, 3, -9);
        x.made("sheet", 2, 2, 0);
        x.made("tell", 2);
        x.made("name", 2);
        return x;
    }

    void due(String what, long got, long want) {
        asked++;
        if (got != want) {
            fail(what + " answered " + got + ", due is " + want);
        }
    }

    void holds(String what, boolean so) {
        asked++;
        if (!so) {
            fail(what);
        }
    }

    void same(String what, String got, String want) {
        asked++;
        if (!got.equals(want)) {
            int at = 0;
            while (at < Math.min(got.length(), want.length()) && got.charAt(at) == want.charAt(at)) {
                at++;
            }
            fail(what + ": it is .." + part(got, at) + "..; due is .." + part(want, at) + "..");
        }
    }

    /** What stands around the place from which two texts are unlike. */
    private static String part(String text, int at) {
        return text.substring(Math.max(0, at - 40), Math.min(text.length(), at + 40));
    }

    private void fail(String what) {
        wrong++;
        if (wrong <= 60) {
            System.out.println(section + " / " + sentence + "\n    " + what);
        }
    }

    private void end() {
        System.out.println(sentences + " sentences, " + asked + " answers, " + wrong + " not as due");
        System.exit(wrong == 0 && asked > 0 ? 0 : 1);
    }
}
