/** The edges that promises 16 to 22 name, sentence by sentence. */
public final class DeedsEdgesTest {
    private static final Check check = new Check("DeedsEdgesTest");
    private static final int BAD = -1, FULL = -2, STATE = -4;
    private static final int NOTHING = 1;
    private static final int MIN = Integer.MIN_VALUE, MAX = Integer.MAX_VALUE;

    public static void main(String[] args) {
        day();
        shade();
        snow();
        snowRefused();
        undo();
        undoOfSorts();
        now();
        keep();
        on();
        onByAnotherPast();
        onRefused();
        check.endOf(16, 22);
    }

    /** A NORTH with some DEEDS, all of SHADE. */
    private static SnowCitizens shaded(String text, int deeds) {
        SnowCitizens x = Check.north(text);
        for (int k = 0; k < deeds; k++) {
            x.shade(0, k % 10);
        }
        return x;
    }

    private static void day() {
        check.sentence(16, "A DAY passes: how many are not GONE then.");
        SnowCitizens x = Check.north("z123000005 m0100 m0200 m0300 m0400 m0600 m0700");
        int[] left = {5, 3, 1, 1};
        for (int k = 0; k < left.length; k++) {
            check.due("DAY " + k, x.day(), left[k]);
            check.due("then it is DAY", x.now(), k + 1);
            check.due("DEEDS", x.count(3), k + 1);
        }
        x = Check.north("z900000005 m0900");
        check.due("none is left", x.day(), 0);
        check.due("DAYS pass without any", x.day() + x.count(1), 2);
        check.sentence(16, "STATE: no MEN;");
        SnowCitizens none = new SnowCitizens();
        check.allRefused(none, STATE, none::day);
        check.sentence(16, "FULL: 60 DEEDS.");
        SnowCitizens y = shaded("z111111115 m2000", 58);
        check.due("the 59th", y.day(), 1);
        check.due("the 60th", y.day(), 1);
        check.allRefused(y, FULL, y::day);
        check.due("as many as there were", y.count(3) * 100 + y.count(1), 6002);
        y.undo(59);
        check.due("the 60th again", y.day(), 1);
        check.allRefused(y, FULL, y::day);
        y.undo(0);
        for (int k = 0; k < 60; k++) {
            check.due("DAY " + k + " of 60", y.day(), k < 19 ? 1 : 0);
        }
        check.allRefused(y, FULL, y::day);
        check.sentence(16, "(FULL last.)");
        // Without MEN there are no DEEDS, so both can't be: a new object is not FULL.
        check.allRefused(none, STATE, none::day);
        check.due("no DEEDS without MEN", none.count(3), 0);
    }

    private static void shade() {
        check.sentence(17, "The SHADE of a MAN is v (0 .. 9): what it was.");
        SnowCitizens x = Check.north("z555555555 m5040 m5000");
        int was = 4;
        for (int v : new int[] {0, 9, 9, 1, 8, 0}) {
            check.due("SHADE " + v, x.shade(0, v), was);
            check.told("it is " + v, x, x.man(0, 2), 1, v);
            was = v;
        }
        check.due("as it was is a DEED, too", x.count(3), 6);
        check.told("not of the other one", x, x.man(1, 2), 1, 0);
        x.shade(1, 9);
        x.day();
        check.due("0 and 9", x.bulk(0, 0) * 100 + x.bulk(1, 0), 4550);
        SnowCitizens gone = Check.north("z900000005 m0930");
        gone.day();
        gone.day();
        gone.undo(0);
        gone.shade(0, 0);
        gone.day();
        check.due("of one that is GONE", gone.shade(0, 7), 0);
        check.told("of one that is GONE", gone, gone.man(0, 2), 1, 7);
        check.due("it stays GONE", gone.bulk(0, 0), 0);
        check.sentence(17, "BAD;");
        SnowCitizens y = Check.north("z555555555 m5040 m5000");
        check.allRefused(y, BAD, () -> y.shade(2, 0), () -> y.shade(-1, 0), () -> y.shade(6, 0),
            () -> y.shade(MIN, 0), () -> y.shade(MAX, 0), () -> y.shade(0, 10), () -> y.shade(0, -1),
            () -> y.shade(0, MIN), () -> y.shade(0, MAX));
        SnowCitizens none = new SnowCitizens();
        check.allRefused(none, BAD, () -> none.shade(0, 0));
        check.sentence(17, "FULL.");
        SnowCitizens z = shaded("z111111115 m2000", 59);
        check.due("the 60th", z.shade(0, 3), 8);
        check.allRefused(z, FULL, () -> z.shade(0, 0), () -> z.shade(0, 3));
        check.allRefused(z, BAD, () -> z.shade(0, 10), () -> z.shade(1, 0));
        check.due("it can be undone", z.undo(59), 1);
        check.told("to what it was", z, z.man(0, 2), 1, 8);
    }

    private static void snow() {
        check.sentence(18, "SNOW (n, 1 .. 9) is carried to a MAN: its BULK then (99 at most).");
        for (int n = 1; n <= 9; n++) {
            SnowCitizens x = Check.north("z111111115 m8900 m9000 m9100 m9800 m9900 m0100");
            int[] want = {89 + n, 90 + n, Math.min(99, 91 + n), 99, 99, 1 + n};
            for (int i = 0; i < 6; i++) {
                check.due("SNOW " + n + " to " + i, x.snow(i, n), want[i]);
                check.due("its BULK", x.bulk(i, 0), want[i]);
            }
            check.due("DEEDS", x.count(3), 6);
            check.due("no DAY", x.count(1), 0);
            check.due("all are undone", x.undo(0), 6);
            check.due("what was cut is not taken", x.bulk(3, 0) * 100 + x.bulk(4, 0), 9899);
        }
        SnowCitizens y = Check.north("z111111115 m0100");
        for (int k = 0; k < 11; k++) {
            check.due("more and more", y.snow(0, 9), Math.min(99, 10 + 9 * k));
        }
        y.day();
        check.due("it MELTS from 99", y.bulk(0, 0), 98);
    }

    private static void snowRefused() {
        check.sentence(18, "BAD;");
        SnowCitizens x = Check.north("z999999995 m2000 m0900");
        check.allRefused(x, BAD, () -> x.snow(0, 0), () -> x.snow(0, 10), () -> x.snow(0, -1), () -> x.snow(0, MIN),
            () -> x.snow(0, MAX), () -> x.snow(2, 1), () -> x.snow(-1, 1), () -> x.snow(MIN, 1), () -> x.snow(MAX, 1));
        x.day();
        check.sentence(18, "STATE: it is GONE;");
        check.allRefused(x, STATE, () -> x.snow(1, 1), () -> x.snow(1, 9));
        check.allRefused(x, BAD, () -> x.snow(1, 0), () -> x.snow(1, 10));
        check.due("the other one is not", x.snow(0, 1), 12);
        x.undo(0);
        check.due("nor is it, ahead of that DAY", x.snow(1, 1), 10);
        check.sentence(18, "FULL.");
        SnowCitizens y = shaded("z999999995 m2000", 59);
        check.due("the 60th", y.snow(0, 1), 21);
        check.allRefused(y, FULL, () -> y.snow(0, 1), () -> y.snow(0, 9));
        check.sentence(18, "(FULL last.)");
        check.allRefused(y, BAD, () -> y.snow(0, 0), () -> y.snow(1, 1));
        SnowCitizens z = Check.north("z999999995 m0900");
        for (int k = 0; k < 60; k++) {
            z.day();
        }
        check.allRefused(z, STATE, () -> z.snow(0, 1));
        check.allRefused(z, FULL, z::day);
    }

    private static void undo() {
        check.sentence(19, "(0 to how many there are: none then) are undone");
        SnowCitizens x = Check.north("z222222225 m5000 h3000");
        long[] digests = new long[61];
        for (int k = 0; k < 60; k++) {
            digests[k] = x.digest();
            int sort = k % 3;
            if (sort == 0) {
                x.day();
            } else if (sort == 1) {
                x.snow(k % 2, 1 + k % 9);
            } else {
                x.shade(k / 2 % 2, k % 2);
            }
        }
        digests[60] = x.digest();
        check.due("none", x.undo(60), 0);
        check.due("none changes nothing", x.digest(), digests[60]);
        check.due("the last", x.undo(59), 1);
        check.due("the last is undone", x.digest(), digests[59]);
        check.due("none, of fewer", x.undo(59), 0);
        int deeds = 59;
        for (int n : new int[] {58, 57, 50, 30, 1, 0}) {
            check.due("from " + n + " on", x.undo(n), deeds - n);
            check.due("as it was ahead of DEED " + n, x.digest(), digests[n]);
            deeds = n;
        }
        check.due("none of none", x.undo(0), 0);
        check.due("none of none changes nothing", x.digest(), digests[0]);
        check.sentence(19, "(the RIGHT stays):");
        x.right(2);
        x.day();
        x.right(8);
        check.due("a DAY", x.undo(0), 1);
        check.due("the RIGHT", x.count(2), 8);
        check.sentence(19, "how many.");
        for (int n = 0; n <= 3; n++) {
            x.day();
            x.day();
            x.day();
            check.due("of three from " + n + " on", x.undo(n), 3 - n);
            check.due("left", x.count(3), n);
            x.undo(0);
        }
        check.sentence(19, "BAD.");
        x.day();
        check.allRefused(x, BAD, () -> x.undo(2), () -> x.undo(-1), () -> x.undo(60), () -> x.undo(61),
            () -> x.undo(MIN), () -> x.undo(MAX));
        SnowCitizens none = new SnowCitizens();
        check.allRefused(none, BAD, () -> none.undo(1), () -> none.undo(-1));
        check.due("none without MEN", none.undo(0), 0);
    }

    private static void undoOfSorts() {
        check.sentence(19, "DEEDS from number n on");
        SnowCitizens x = Check.north("z999999995 m0900 i9900");
        x.lots(2, 12, 5);
        x.lots(2, 0, 5);
        check.due("GONE", x.bulk(0, 0), 0);
        check.due("a DAY of SUN", x.undo(3), 1);
        check.due("still GONE", x.bulk(0, 0), 0);
        check.due("the other one", x.undo(2), 1);
        check.due("not GONE behind clouds", x.bulk(0, 0), 9);
        check.due("on that DAY", x.now(), 2);
        check.due("another DEED in its place", x.shade(0, 9), 0);
        check.due("a DAY behind it", x.day(), 2);
        check.due("it is undone", x.undo(2), 2);
        check.told("the SHADE", x, x.man(0, 2), 1, 0);
        SnowCitizens of = Check.north("z000000005 m1000 m2010");
        of.snow(1, 5);
        of.shade(1, 7);
        of.snow(0, 1);
        of.undo(2);
        check.due("the SNOW of the other one stays", of.bulk(0, 0) * 100 + of.bulk(1, 0), 1025);
        check.told("the SHADE of the other one stays", of, of.man(1, 2), 1, 7);
        check.told("nor has the first one any", of, of.man(0, 2), 1, 0);
    }

    private static void now() {
        check.sentence(20, "The DAY to come;");
        SnowCitizens x = Check.north("z100000005 m0100 m0200 m9900 m0100 m0300 m0100");
        check.due("DAY 0", x.now(), 0);
        check.sentence(20, "MEN that are not GONE by asked() (bits).");
        check.due("all", x.asked(), 63);
        x.day();
        check.told("three", x, x.now(), 1, 2 + 4 + 16);
        x.right(9);
        check.told("by any RIGHT", x, x.now(), 1, 2 + 4 + 16);
        x.lots(20, 0, 1);
        check.told("one", x, x.now(), 21, 4);
        x.undo(0);
        x.shade(0, 4);
        check.told("behind undoing", x, x.now(), 0, 63);
        SnowCitizens gone = Check.north("z900000005 m0100");
        gone.day();
        check.told("none", gone, gone.now(), 1, 0);
        check.sentence(20, "STATE: no MEN.");
        SnowCitizens none = new SnowCitizens();
        check.allRefused(none, STATE, none::now);
    }

    private static void keep() {
        check.sentence(21, "The NORTH (MEN, the DAY, DEEDS, the RIGHT) is kept in a place (0 .. 2): how many DEEDS.");
        SnowCitizens x = Check.north("z111111115 m2000 l0511");
        long[] digests = new long[3];
        int[] rights = {8, 6, 7};
        for (int k = 0; k < 3; k++) {
            check.due("DEEDS", x.keep(k), 2 * k);
            check.due("places", x.count(8), k + 1);
            x.day();
            x.shade(1, k);
            x.right(6 + k);
        }
        check.due("all DEEDS", x.keep(0), 6);
        check.due("the same place", x.count(8), 3);
        for (int k = 0; k < 3; k++) {
            x.on(k);
            digests[k] = x.digest();
            check.due("the RIGHT of " + k, x.count(2), rights[k]);
        }
        for (int k = 2; k >= 0; k--) {
            x.on(k);
            check.due("kept as it was, " + k, x.digest(), digests[k]);
        }
        check.sentence(21, "BAD;");
        check.allRefused(x, BAD, () -> x.keep(3), () -> x.keep(-1), () -> x.keep(MIN), () -> x.keep(MAX));
        check.sentence(21, "STATE: no MEN.");
        SnowCitizens none = new SnowCitizens();
        check.allRefused(none, STATE, () -> none.keep(0), () -> none.keep(2));
        check.allRefused(none, BAD, () -> none.keep(3), () -> none.keep(-1));
        check.due("nothing is kept", none.count(8), 0);
    }

    private static void on() {
        check.sentence(22, "The NORTH is as it was kept: how many DEEDS.");
        SnowCitizens x = Check.north("z313131315 m4000 w5010");
        check.due("kept without DEEDS", x.keep(2), 0);
        long first = x.digest();
        for (int k = 0; k < 20; k++) {
            x.day();
            x.snow(0, 3);
            x.shade(1, k % 10);
        }
        x.right(9);
        check.due("kept with 60", x.keep(1), 60);
        x.undo(30);
        x.keep(0);
        long half = x.digest();
        check.due("60 again", x.on(1), 60);
        check.allRefused(x, FULL, x::day);
        check.due("20 DAYS", x.now(), 20);
        check.due("they can be undone", x.undo(30), 30);
        check.due("to the same half", x.digest(), half);
        check.due("none, with its RIGHT", x.on(2) + x.count(2), 5);
        check.due("MEN as they were", x.bulk(0, 0), 40);
        check.allRefused(x, BAD, () -> x.undo(1));
        x.day();
        x.undo(0);
        x.on(2);
        // What is kept stays kept; the digest tells of three places now instead of one.
        x.on(1);
        x.on(2);
        long again = x.digest();
        check.due("gone on from twice", x.on(2), 0);
        check.due("alike", x.digest(), again);
        check.due("places", x.count(8), 3);
        check.due("not as when one was kept", first == again ? 1 : 0, 0);
    }

    private static void onByAnotherPast() {
        check.sentence(22, "The NORTH is as it was kept: how many DEEDS.");
        SnowCitizens x = Check.north("z444444445 m5010 i6020");
        x.shade(0, 3);
        x.snow(1, 7);
        x.day();
        x.right(2);
        x.keep(0);
        x.undo(0);
        x.snow(0, 9);
        x.day();
        x.day();
        x.shade(1, 4);
        x.right(6);
        x.keep(2);
        int[][] kept = {{50 - 1, 67, 3, 2, 1, 2, 3}, {59 - 3 - 3, 60 - 1, 1, 4, 2, 6, 4}};
        for (int round = 0; round < 4; round++) {
            int[] want = kept[round % 2];
            check.due("its DEEDS", x.on(round % 2 * 2), want[6]);
            check.due("its BULKS", x.bulk(0, 0) * 100 + x.bulk(1, 0), want[0] * 100 + want[1]);
            check.told("its SHADE", x, x.man(0, 2), 1, want[2]);
            check.told("its other SHADE", x, x.man(1, 2), 1, want[3]);
            check.due("its DAY", x.now(), want[4]);
            check.due("its RIGHT", x.count(2), want[5]);
            x.undo(2);
            check.due("its first two DEEDS", x.bulk(0, 0) * 100 + x.bulk(1, 0), round % 2 == 0 ? 5067 : 5660);
            check.told("its SHADE by those", x, x.man(0, 2), 1, round % 2 == 0 ? 3 : 1);
            x.undo(0);
            check.due("its beginning", x.bulk(0, 0) * 100 + x.bulk(1, 0), 5060);
            x.shade(1, 9);
        }
    }

    private static void onRefused() {
        check.sentence(22, "BAD;");
        SnowCitizens x = Check.north("z313131315 m4000");
        x.keep(1);
        check.allRefused(x, BAD, () -> x.on(3), () -> x.on(-1), () -> x.on(MIN), () -> x.on(MAX));
        check.sentence(22, "NOTHING.");
        check.allFound(x, NOTHING, () -> x.on(0), () -> x.on(2));
        x.north(0);
        check.allFound(x, NOTHING, () -> x.on(1));
        SnowCitizens none = new SnowCitizens();
        check.allFound(none, NOTHING, () -> none.on(0), () -> none.on(2));
        check.allRefused(none, BAD, () -> none.on(3));
    }
}
