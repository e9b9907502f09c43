import java.util.TreeMap;
import java.util.function.LongSupplier;

/** What the tests share: answers compared with those that are due, refusals, norths from texts. */
final class Check {
    private final String name;
    private int right;
    private int wrong;
    private final TreeMap<Integer, Doc> named = new TreeMap<>();
    private String sentence = "";
    private int answersAhead = -1;

    Check(String name) {
        this.name = name;
    }

    /** The answers from here on hold the program to these words of a promise (0: of the Terms). */
    void sentence(int promise, String words) {
        endSentence();
        sentence = "'" + words + "' ";
        answersAhead = right + wrong;
        if (!named.computeIfAbsent(promise, Doc::new).name(words)) {
            fail("the document has no such words");
        }
        sentence = promise + " " + sentence;
    }

    private void endSentence() {
        if (right + wrong == answersAhead) {
            fail("nothing was asked of it");
        }
        answersAhead = -1;
    }

    private void fail(String what) {
        wrong++;
        System.out.println(name + ": " + sentence + what);
    }

    /** One answer; the label begins with the promise's number. */
    void due(String label, long got, long want) {
        if (got == want) {
            right++;
        } else {
            wrong++;
            System.out.println(name + ": promise " + sentence + label + ": answered " + got + ", due is " + want);
        }
    }

    /** One answer, and what asked() tells then. */
    void told(String label, SnowCitizens x, long got, long want, long told) {
        due(label, got, want);
        due(label + " (told)", x.asked(), told);
    }

    /** Calls that are all refused alike, and change nothing. */
    void allRefused(SnowCitizens x, int want, LongSupplier... calls) {
        for (int k = 0; k < calls.length; k++) {
            refused("call " + k, x, want, 0, calls[k]);
        }
    }

    /** Calls that are all refused with a FINDING, and change nothing but finding() and findings(). */
    void allFound(SnowCitizens x, int finding, LongSupplier... calls) {
        for (int k = 0; k < calls.length; k++) {
            refused("call " + k, x, SnowCitizens.FINDING, finding, calls[k]);
        }
    }

    /** A call that is refused, and changes nothing. */
    void refused(String label, SnowCitizens x, int want, LongSupplier call) {
        refused(label, x, want, 0, call);
    }

    /** A call that is refused with a FINDING, and changes nothing but finding() and findings(). */
    void found(String label, SnowCitizens x, int finding, LongSupplier call) {
        refused(label, x, SnowCitizens.FINDING, finding, call);
    }

    private void refused(String label, SnowCitizens x, int want, int finding, LongSupplier call) {
        long[] ahead = seen(x);
        due(label, call.getAsLong(), want);
        if (finding != 0) {
            ahead[4] = finding;
            ahead[4 + finding]++;
        }
        long[] behind = seen(x);
        for (int i = 0; i < ahead.length; i++) {
            due(label + " (changes nothing, " + i + ")", behind[i], ahead[i]);
        }
    }

    /** All that can be seen of an object without asking for more than is kept. */
    private static long[] seen(SnowCitizens x) {
        return new long[] {x.digest(), x.asked(), x.upper(), x.lower(), x.finding(),
            x.findings(1), x.findings(2), x.findings(3), x.findings(4), x.findings(5)};
    }

    /** A new object with a TEXT 0. */
    static SnowCitizens text(String text) {
        SnowCitizens x = new SnowCitizens();
        write(x, 0, text);
        return x;
    }

    static void write(SnowCitizens x, int t, String text) {
        x.text(t, text.length());
        for (int i = 0; i < text.length(); i++) {
            if (text.charAt(i) != ' ') {
                x.put(t, i, text.charAt(i));
            }
        }
    }

    /** A new object with a NORTH by a text, which is TEXT 0 then. */
    static SnowCitizens north(String text) {
        SnowCitizens x = text(text);
        if (x.north(0) < 1) {
            throw new AssertionError("no north: " + text);
        }
        return x;
    }

    /** A ROW of ints. */
    static void lay(SnowCitizens x, int r, int... cells) {
        x.row(r, cells.length);
        for (int i = 0; i < cells.length; i++) {
            x.lay(r, i, cells[i]);
        }
    }

    /** A ROW is just of these ints; nothing else is asked of the object than what at() tells. */
    void row(String label, SnowCitizens x, int r, int... cells) {
        for (int i = 0; i < cells.length; i++) {
            due(label + " (place " + i + " is there)", x.at(r, i), 1);
            due(label + " (place " + i + ")", x.asked(), cells[i]);
        }
        due(label + " (no more places)", x.at(r, cells.length), SnowCitizens.FINDING);
    }

    /** The end, where each word of some promises (0: the Terms) must have been named by a sentence. */
    void endOf(int first, int last) {
        endSentence();
        for (int promise = first; promise <= last; promise++) {
            sentence = promise + " ";
            String left = named.computeIfAbsent(promise, Doc::new).notNamed();
            if (!left.isEmpty()) {
                fail("no test names these words: " + left);
            }
        }
        end();
    }

    void end() {
        System.out.println(name + ": " + right + " answers as due, " + wrong + " not");
        if (wrong != 0) {
            System.exit(1);
        }
    }
}
