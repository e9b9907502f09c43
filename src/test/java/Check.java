import java.util.function.LongSupplier;

/** What the tests share: answers compared with those that are due, refusals, norths from texts. */
final class Check {
    private final String name;
    private int right;
    private int wrong;

    Check(String name) {
        this.name = name;
    }

    /** One answer; the label begins with the promise's number. */
    void due(String label, long got, long want) {
        if (got == want) {
            right++;
        } else {
            wrong++;
            System.out.println(name + ": promise " + label + ": answered " + got + ", due is " + want);
        }
    }

    /** A call that is refused, and changes nothing. */
    void refused(String label, SnowCitizens x, int want, LongSupplier call) {
        refused(label, x, want, 0, call);
    }

    /** A call that is refused with a FINDING, and changes nothing but finding() and findings(). */
    void found(String label, SnowCitizens x, int finding, LongSupplier call) {
        refused(label, x, SnowCitizens.FINDING, finding, call);
    }

    private void refused(String label, SnowCitizens x, int want, int finding, LongSupplier call) {
        long[] ahead = seen(x);
        due(label, call.getAsLong(), want);
        if (finding != 0) {
            ahead[4] = finding;
            ahead[4 + finding]++;
        }
        long[] behind = seen(x);
        for (int i = 0; i < ahead.length; i++) {
            due(label + " (changes nothing, " + i + ")", behind[i], ahead[i]);
        }
    }

    /** All that can be seen of an object without asking for more than is kept. */
    private static long[] seen(SnowCitizens x) {
        return new long[] {x.digest(), x.asked(), x.upper(), x.lower(), x.finding(),
            x.findings(1), x.findings(2), x.findings(3), x.findings(4), x.findings(5)};
    }

    /** A new object with a TEXT 0. */
    static SnowCitizens text(String text) {
        SnowCitizens x = new SnowCitizens();
        write(x, 0, text);
        return x;
    }

    static void write(SnowCitizens x, int t, String text) {
        x.text(t, text.length());
        for (int i = 0; i < text.length(); i++) {
            if (text.charAt(i) != ' ') {
                x.put(t, i, text.charAt(i));
            }
        }
    }

    /** A new object with a NORTH by a text, which is TEXT 0 then. */
    static SnowCitizens north(String text) {
        SnowCitizens x = text(text);
        if (x.north(0) < 1) {
            throw new AssertionError("no north: " + text);
        }
        return x;
    }

    /** A ROW of ints. */
    static void lay(SnowCitizens x, int r, int... cells) {
        x.row(r, cells.length);
        for (int i = 0; i < cells.length; i++) {
            x.lay(r, i, cells[i]);
        }
    }

    /** A ROW is just of these ints; nothing else is asked of the object than what at() tells. */
    void row(String label, SnowCitizens x, int r, int... cells) {
        for (int i = 0; i < cells.length; i++) {
            due(label + " (place " + i + " is there)", x.at(r, i), 1);
            due(label + " (place " + i + ")", x.asked(), cells[i]);
        }
        due(label + " (no more places)", x.at(r, cells.length), SnowCitizens.FINDING);
    }

    void end() {
        System.out.println(name + ": " + right + " answers as due, " + wrong + " not");
        if (wrong != 0) {
            System.exit(1);
        }
    }
}
