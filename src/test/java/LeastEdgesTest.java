/** The edges that promises 30 to 34 name, sentence by sentence. */
public final class LeastEdgesTest {
    private static final Check check = new Check("LeastEdgesTest");
    private static final int BAD = -1, STATE = -4, NONE = -9;
    private static final int NOTHING = 1, UNLIKE = 3, SIZE = 5;
    private static final int MIN = Integer.MIN_VALUE, MAX = Integer.MAX_VALUE;

    public static void main(String[] args) {
        guard();
        guardByNone();
        bribe();
        bribeRow();
        bribeRefused();
        carry();
        carryByNone();
        census();
        censusOrder();
        counted();
        countedRefused();
        check.endOf(30, 34);
    }

    private static void guardIs(SnowCitizens x, int set, int n, int more, int... shades) {
        check.due("guard " + set + " " + n, x.guard(set, n, 5), more);
        check.row("guard " + set + " " + n, x, 5, shades);
    }

    private static void guard() {
        check.sentence(30, "The fewest SHADES more by which all MEN of a set (bits) are not GONE n DAYS from now;");
        // In 3 DAYS of SUN 5 a MAN of 12 without SHADE MELTS by 15, with 1 by 12, with 2 by 9.
        SnowCitizens x = Check.north("z555555555 m1200 h1200 w0600 s1200 l1250 i0500");
        guardIs(x, 1, 3, 2, 2, 0, 0, 0, 5, 0);
        guardIs(x, 2, 3, 1, 0, 1, 0, 0, 5, 0);
        guardIs(x, 4, 3, 2, 0, 0, 2, 0, 5, 0);
        guardIs(x, 8, 3, 3, 0, 0, 0, 3, 5, 0);
        guardIs(x, 16, 3, 0, 0, 0, 0, 0, 5, 0);
        guardIs(x, 32, 3, 0, 0, 0, 0, 0, 5, 0);
        guardIs(x, 32, 4, 2, 0, 0, 0, 0, 5, 2);
        guardIs(x, 63, 3, 8, 2, 1, 2, 3, 5, 0);
        guardIs(x, 0, 60, 0, 0, 0, 0, 0, 5, 0);
        guardIs(x, 63, 0, 0, 0, 0, 0, 0, 5, 0);
        guardIs(x, 1 + 2 + 4 + 16 + 32, 60, 5 + 4 + 4 + 0 + 4, 5, 4, 4, 0, 5, 4);
        check.sentence(30, "the SHADES of all MEN then come to a ROW (anew).");
        Check.lay(x, 0, 1, 2, 3, 4, 5, 6, 7, 8);
        check.due("anew, shorter", x.guard(1, 3, 0), 2);
        check.row("anew, shorter", x, 0, 2, 0, 0, 0, 5, 0);
        x.tear(0);
        check.due("anew, missing", x.guard(1, 3, 0), 2);
        check.row("anew, missing", x, 0, 2, 0, 0, 0, 5, 0);
        check.told("nothing is let", x, x.man(0, 2), 1, 0);
        SnowCitizens most = Check.north("z999999999 m0100 m0190");
        guardIs(most, 3, 1, 9, 9, 9);
        guardIs(most, 3, 60, 9, 9, 9);
        guardIs(most, 2, 60, 0, 0, 9);
        SnowCitizens least = Check.north("z999999999 m9960");
        guardIs(least, 1, 1, 0, 6);
    }

    private static void guardByNone() {
        check.sentence(30, "NONE: by none.");
        SnowCitizens x = Check.north("z555555555 s0300 s0400 m9900 s6000");
        Check.lay(x, 1, 7, 8);
        check.allRefused(x, NONE, () -> x.guard(1, 3, 1), () -> x.guard(15, 3, 1), () -> x.guard(9, 60, 1),
            () -> x.guard(8, 60, 1));
        check.row("the ROW stays", x, 1, 7, 8);
        guardIs(x, 2, 3, 5, 0, 5, 0, 0);
        guardIs(x, 8, 59, 5, 0, 0, 0, 5);
        x.day();
        x.day();
        check.allRefused(x, NONE, () -> x.guard(1, 0, 1), () -> x.guard(1, 60, 1));
        guardIs(x, 4, 0, 0, 0, 0, 0, 0);
        check.sentence(30, "BAD: also MEN that there are not;");
        SnowCitizens y = Check.north("z111111115 m2000 m2000");
        check.allRefused(y, BAD, () -> y.guard(4, 0, 0), () -> y.guard(7, 0, 0), () -> y.guard(64, 0, 0),
            () -> y.guard(-1, 0, 0), () -> y.guard(MIN, 0, 0), () -> y.guard(MAX, 0, 0), () -> y.guard(1 << 30, 0, 0));
        SnowCitizens z = Check.north("z111111115 m2000 m2000");
        check.allRefused(z, BAD, () -> z.guard(1, 61, 0), () -> z.guard(1, -1, 0), () -> z.guard(1, MIN, 0),
            () -> z.guard(1, MAX, 0), () -> z.guard(1, 0, 6), () -> z.guard(1, 0, -1), () -> z.guard(1, 0, MIN),
            () -> z.guard(1, 0, MAX));
        check.sentence(30, "STATE.");
        SnowCitizens none = new SnowCitizens();
        check.allRefused(none, STATE, () -> none.guard(0, 0, 0), () -> none.guard(0, 60, 5));
        check.allRefused(none, BAD, () -> none.guard(1, 0, 0), () -> none.guard(0, 61, 0), () -> none.guard(0, 0, 6));
    }

    private static void bribeIs(String text, int is, int n, int cost, int... shades) {
        SnowCitizens x = Check.north(text);
        Check.lay(x, 5, 7);
        check.due("bribe " + is + " " + n + " of " + text, x.bribe(is, n, 5), cost);
        if (cost == NONE) {
            check.row("the ROW stays", x, 5, 7);
        } else {
            check.row("bribe " + is + " " + n + " of " + text, x, 5, shades);
        }
        check.due("nothing is let", x.count(3), 0);
    }

    private static void bribe() {
        check.sentence(31, "The fewest SHADES more or less (each 1) by which the motion is CARRIED (is = 1),"
            + " or not (0),");
        // In 2 DAYS of SUN 9 a MAN of 15 has the RIGHT (5) with a SHADE of 4 and more.
        bribeIs("z999999995 m1541", 1, 2, 0, 4);
        bribeIs("z999999995 m1531", 1, 2, 1, 4);
        bribeIs("z999999995 m1501", 1, 2, 4, 4);
        bribeIs("z999999995 m1541", 0, 2, 1, 3);
        bribeIs("z999999995 m1591", 0, 2, 6, 3);
        bribeIs("z999999995 m1531", 0, 2, 0, 3);
        bribeIs("z999999995 m1551 m1530", 0, 2, 1, 5, 4);
        bribeIs("z999999995 m1551 m1550", 1, 2, 2, 5, 3);
        bribeIs("z999999995 m1541 w1540", 0, 2, 1, 3, 4);
        // From 0 to 9, and from 9 to 0.
        bribeIs("z999999995 m0501", 1, 60, 9, 9);
        bribeIs("z111111118 m0891", 0, 1, 9, 0);
        check.sentence(31, "n DAYS from now;");
        bribeIs("z999999995 m1501", 1, 0, 0, 0);
        bribeIs("z999999995 m1501", 1, 1, 0, 0);
        bribeIs("z999999995 m1500", 1, 0, NONE);
        bribeIs("z999999995 m1501", 0, 0, NONE);
        bribeIs("z999999995 m1501", 1, 60, 9, 9);
        bribeIs("z999999995 m1501", 0, 60, 0, 0);
    }

    private static void bribeRow() {
        check.sentence(31, "the SHADES of all MEN then come to a ROW (anew;"
            + " of each the fewest by which it has the RIGHT then, or has not, of as few the lesser SHADE;");
        // Who has what is due keeps its SHADE; who has not gets just as much as is due.
        bribeIs("z999999995 m1501 m1590 m1500", 1, 2, 4 + 6, 4, 3, 0);
        bribeIs("z999999995 m9901 m1571 m1530", 1, 2, 0, 0, 7, 3);
        bribeIs("z999999995 m1561 m1591 m1530", 0, 2, 3 + 1, 3, 9, 4);
        // The SUNNY one can't have the RIGHT by any SHADE, nor can the great one be without it.
        bribeIs("z999999995 m1541 s0101", 1, 2, 0, 4, 0);
        bribeIs("z999999995 m1531 s0101 m9900 m9901", 1, 2, 1, 4, 0, 0, 0);
        check.sentence(31, "of alike sums who has the RIGHT by the least number as bits).");
        // By 0 and without 2 (bits 1), by 1 and without 2 (2), by 0 and 1 with 2 (7).
        bribeIs("z999999995 m1531 m1531 m1540", 1, 2, 2, 4, 3, 3);
        bribeIs("z999999995 m1531 m1531", 1, 2, 1, 4, 3);
        bribeIs("z999999995 m1530 m1541", 0, 2, 1, 3, 3);
        bribeIs("z999999995 m1541 m1530", 0, 2, 1, 3, 3);
        bribeIs("z999999995 m1541 m1541 m1540 m1540", 1, 2, 1, 4, 4, 4, 3);
        check.sentence(31, "NONE: by none.");
        bribeIs("z000000005 m0500", 1, 60, NONE);
        bribeIs("z000000005 m0501", 0, 60, NONE);
        bribeIs("z999999995 s0501", 1, 1, NONE);
        bribeIs("z000000006 m0501", 1, 0, NONE);
        bribeIs("z999999995 s0500 m9901 m9900", 1, 1, NONE);
    }

    private static void bribeRefused() {
        check.sentence(31, "BAD;");
        SnowCitizens x = Check.north("z999999995 m1541");
        check.allRefused(x, BAD, () -> x.bribe(2, 0, 0), () -> x.bribe(-1, 0, 0), () -> x.bribe(MIN, 0, 0),
            () -> x.bribe(MAX, 0, 0), () -> x.bribe(1, 61, 0), () -> x.bribe(1, -1, 0), () -> x.bribe(1, MIN, 0),
            () -> x.bribe(1, MAX, 0), () -> x.bribe(1, 0, 6), () -> x.bribe(1, 0, -1), () -> x.bribe(1, 0, MIN),
            () -> x.bribe(1, 0, MAX));
        check.sentence(31, "STATE.");
        SnowCitizens none = new SnowCitizens();
        check.allRefused(none, STATE, () -> none.bribe(0, 0, 0), () -> none.bribe(1, 60, 5));
        check.allRefused(none, BAD, () -> none.bribe(2, 0, 0), () -> none.bribe(1, 61, 0), () -> none.bribe(1, 0, 6));
    }

    private static void carry() {
        check.sentence(32, "The least SNOW carried to a MAN now by which it has the RIGHT n DAYS from now");
        SnowCitizens x = Check.north("z333333335 m0600 l0600 s1100 h0430");
        int[] snow = {0, 2, 5, 8, 11};
        for (int n = 0; n < snow.length; n++) {
            check.due("a MAN in " + n, x.carry(0, n), snow[n]);
        }
        check.due("more than 9 at once", x.carry(0, 10), 29);
        int[] law = {0, 0, 0, 1, 3};
        for (int n = 0; n < law.length; n++) {
            check.due("a LAWYER in " + n, x.carry(1, n), law[n]);
        }
        check.due("a SUNNY one", x.carry(2, 2), 2);
        check.due("a HATTED one that does not MELT", x.carry(3, 60), 1);
        check.due("no SNOW is carried", x.bulk(0, 0) + x.count(3), 6);
        check.sentence(32, "(BULK 99 at most;");
        SnowCitizens y = Check.north("z333333336 m9000 m9900 m0100 l9900 l9700");
        check.due("just to 99", y.carry(0, 31), 9);
        check.due("99 as it is", y.carry(1, 31), 0);
        check.due("98 more", y.carry(2, 31), 98);
        y.right(7);
        check.due("not to 100", y.carry(0, 31), NONE);
        check.due("nothing more than 99", y.carry(1, 31), NONE);
        check.due("not 99 more", y.carry(2, 31), NONE);
        check.due("a LAWYER's last", y.carry(3, 49), 0);
        check.due("not to 101", y.carry(3, 50), NONE);
        check.due("a LAWYER to 99", y.carry(4, 49), 2);
        check.sentence(32, "0: it has).");
        check.due("it has now", y.carry(0, 0), 0);
        check.due("it has then", y.carry(0, 27), 0);
        check.due("just not any more", y.carry(0, 28), 1);
        check.due("for ever", Check.north("z000000009 m0900").carry(0, 60), 0);
    }

    private static void carryByNone() {
        check.sentence(32, "NONE: by none,");
        SnowCitizens x = Check.north("z999999999 m9900 l0100 s5000");
        check.due("in 10 DAYS of 9", x.carry(0, 10), 0);
        check.due("in 11", x.carry(0, 11), NONE);
        check.due("a SUNNY one in 60", x.carry(2, 60), NONE);
        check.sentence(32, "or it is GONE now.");
        x.day();
        check.due("now", x.carry(1, 0), NONE);
        check.due("in 1 DAY", x.carry(1, 1), NONE);
        x.right(1);
        check.due("by the least RIGHT", x.carry(1, 0), NONE);
        x.undo(0);
        check.due("ahead of that DAY", x.carry(1, 0), 0);
        check.sentence(32, "BAD.");
        SnowCitizens y = Check.north("z111111115 m2000");
        check.allRefused(y, BAD, () -> y.carry(1, 0), () -> y.carry(-1, 0), () -> y.carry(MIN, 0),
            () -> y.carry(MAX, 0), () -> y.carry(0, 61), () -> y.carry(0, -1), () -> y.carry(0, MIN),
            () -> y.carry(0, MAX));
        SnowCitizens none = new SnowCitizens();
        check.allRefused(none, BAD, () -> none.carry(0, 0));
    }

    private static void censusIs(SnowCitizens x, int most, int... order) {
        check.due("census", x.census(5), most);
        check.row("order", x, 5, order);
        check.due("counted by it", x.counted(5), most);
    }

    private static void census() {
        check.sentence(33, "All MEN are counted, one a DAY from now on (the first now), in an order:"
            + " who is GONE on its DAY is not counted.");
        censusIs(Check.north("z111111115 m0100"), 1, 0);
        censusIs(Check.north("z111111115 m0600 m0500 m0400 m0300 m0200 m0100"), 6, 5, 4, 3, 2, 1, 0);
        // The last of two is counted on DAY 1: with a BULK of 1 it is GONE then, with 2 it is not.
        censusIs(Check.north("z111111115 m0100 m0100"), 1, 0, 1);
        censusIs(Check.north("z111111115 m0100 m0200"), 2, 0, 1);
        censusIs(Check.north("z111111115 m0200 m0100"), 2, 1, 0);
        SnowCitizens gone = Check.north("z999999995 m0900 m0800 m0900");
        gone.day();
        censusIs(gone, 0, 0, 1, 2);
        check.sentence(33, "The order by which most are counted (the first, by numbers)");
        censusIs(Check.north("z000000005 m0100 m0100 m0100 m0100 m0100 m0100"), 6, 0, 1, 2, 3, 4, 5);
        censusIs(Check.north("z111111115 m0200 m0100 m0100 m0200"), 2, 0, 3, 1, 2);
        censusIs(Check.north("z111111115 m0100 m0300 m0100 m0300"), 3, 0, 1, 3, 2);
        censusIs(Check.north("z111111115 m0300 m0200 m0200 m9900"), 4, 1, 2, 0, 3);
        censusIs(Check.north("z111111115 m0200 m0200 m0200 m9900"), 3, 0, 1, 2, 3);
    }

    private static void censusOrder() {
        check.sentence(33, "comes to a ROW (anew):");
        SnowCitizens x = Check.north("z111111115 m0200 m0100");
        Check.lay(x, 5, 1, 2, 3, 4, 5);
        censusIs(x, 2, 1, 0);
        x.tear(5);
        censusIs(x, 2, 1, 0);
        check.sentence(33, "how many.");
        check.due("both", x.census(0), 2);
        x.day();
        check.due("one is GONE", x.census(0), 1);
        x.day();
        check.due("both are GONE", x.census(0), 0);
        check.sentence(33, "BAD;");
        check.allRefused(x, BAD, () -> x.census(6), () -> x.census(-1), () -> x.census(MIN), () -> x.census(MAX));
        check.sentence(33, "STATE.");
        SnowCitizens none = new SnowCitizens();
        check.allRefused(none, STATE, () -> none.census(0), () -> none.census(5));
        check.allRefused(none, BAD, () -> none.census(6), () -> none.census(-1));
    }

    private static void counted() {
        check.sentence(34, "How many are counted by an order in a ROW.");
        int[][] orders = {{0, 1, 2}, {0, 2, 1}, {1, 0, 2}, {1, 2, 0}, {2, 0, 1}, {2, 1, 0}};
        // 0 is GONE on DAY 1, 1 on DAY 2, 2 on DAY 3.
        int[] sums = {3, 2, 2, 2, 1, 2};
        int[] then = {0, 1, 1, 2, 1, 1};
        for (int k = 0; k < orders.length; k++) {
            SnowCitizens x = Check.north("z111111115 m0100 m0200 m0300");
            Check.lay(x, 5, orders[k]);
            check.due("order " + k, x.counted(5), sums[k]);
            check.row("the ROW stays", x, 5, orders[k]);
            x.day();
            check.due("on the next DAY, order " + k, x.counted(5), then[k]);
        }
        SnowCitizens six = Check.north("z000000005 m0100 m0100 m0100 m0100 m0100 m0100");
        Check.lay(six, 0, 5, 4, 3, 2, 1, 0);
        check.due("six", six.counted(0), 6);
        SnowCitizens one = Check.north("z900000005 m0100");
        Check.lay(one, 0, 0);
        check.due("one", one.counted(0), 1);
        one.day();
        check.due("none of one", one.counted(0), 0);
    }

    private static void countedRefused() {
        check.sentence(34, "BAD;");
        SnowCitizens x = Check.north("z111111115 m0100 m0200 m0300");
        check.allRefused(x, BAD, () -> x.counted(6), () -> x.counted(-1), () -> x.counted(MIN), () -> x.counted(MAX));
        check.sentence(34, "STATE;");
        SnowCitizens none = new SnowCitizens();
        none.row(0, 0);
        check.allRefused(none, STATE, () -> none.counted(0), () -> none.counted(1));
        check.sentence(34, "NOTHING;");
        check.allFound(x, NOTHING, () -> x.counted(0), () -> x.counted(5));
        check.sentence(34, "SIZE: not as many as MEN;");
        for (int size : new int[] {0, 1, 2, 4, 6, 40}) {
            SnowCitizens y = Check.north("z111111115 m0100 m0200 m0300");
            y.row(0, size);
            check.allFound(y, SIZE, () -> y.counted(0));
        }
        check.sentence(34, "UNLIKE: not each once.");
        int[][] wrong = {{0, 1, 1}, {0, 0, 1}, {2, 1, 2}, {0, 0, 0}, {0, 1, 3}, {3, 1, 0}, {0, -1, 1}, {-1, 0, 1},
            {1, 2, 3}, {32, 33, 34}, {0, 33, 2}, {MIN, 0, 1}, {0, 1, MAX}, {0, 1, 6}};
        for (int[] order : wrong) {
            SnowCitizens y = Check.north("z111111115 m0100 m0200 m0300");
            Check.lay(y, 0, order);
            check.allFound(y, UNLIKE, () -> y.counted(0));
        }
        check.sentence(34, "(In this order.)");
        check.allRefused(none, BAD, () -> none.counted(6));
        check.allRefused(none, STATE, () -> none.counted(5));
        Check.lay(x, 0, 9, 9);
        check.allFound(x, SIZE, () -> x.counted(0));
        check.allFound(x, NOTHING, () -> x.counted(1));
    }
}
