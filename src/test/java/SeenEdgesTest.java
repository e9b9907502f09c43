/** The edges that promises 35 to 39 name, sentence by sentence. */
public final class SeenEdgesTest {
    private static final Check check = new Check("SeenEdgesTest");
    private static final int BAD = -1, STATE = -4, NONE = -9;
    private static final int NOTHING = 1, UNLIKE = 3, SIZE = 5;
    private static final int MIN = Integer.MIN_VALUE, MAX = Integer.MAX_VALUE;

    public static void main(String[] args) {
        fitsOfPairs();
        fitsOfBulks();
        fitsRefused();
        kinds();
        kindsRefused();
        rights();
        rightsRefused();
        gameTurns();
        gameEnds();
        gameOfAnother();
        gameRefused();
        first();
        firstRefused();
        check.endOf(35, 39);
    }

    private static void fitsAre(SnowCitizens x, int i, int sum, int least, int... pairs) {
        Check.lay(x, 5, pairs);
        check.told("fits", x, x.fits(i, 5), sum, least);
        for (int k = 0; k < pairs.length; k++) {
            check.told("the ROW stays", x, x.at(5, k), 1, pairs[k]);
        }
    }

    private static void fitsOfPairs() {
        check.sentence(35, "BULKS seen of a MAN in a ROW of pairs (none, too; DAYS from now 0 .. 60, the BULK):");
        SnowCitizens x = Check.north("z111111115 m2000 s2000 h2000 m2010");
        fitsAre(x, 0, 100, 0);
        fitsAre(x, 0, 1, 7, 0, 7);
        fitsAre(x, 0, 1, 17, 10, 7);
        fitsAre(x, 1, 1, 27, 10, 7);
        fitsAre(x, 2, 1, 7, 10, 7);
        fitsAre(x, 3, 1, 7, 60, 7);
        fitsAre(x, 0, 1, 61, 60, 1);
        fitsAre(x, 0, 1, 17, 10, 7, 0, 17, 16, 1, 10, 7, 17, 0, 60, 0);
        fitsAre(x, 0, 0, NONE, 10, 7, 10, 8);
        fitsAre(x, 0, 0, NONE, 10, 7, 0, 16);
        int[] most = new int[40];
        for (int k = 0; k < 20; k++) {
            most[2 * k] = k;
            most[2 * k + 1] = 19 - k;
        }
        fitsAre(x, 0, 1, 19, most);
        most[39] = 1;
        fitsAre(x, 0, 0, NONE, most);
        x.day();
        x.shade(0, 1);
        fitsAre(x, 0, 1, 7, 10, 7);
    }

    private static void fitsOfBulks() {
        check.sentence(35, "by how many BULKS now (0 .. 99) this can be; the least by asked() (NONE).");
        SnowCitizens x = Check.north("z911111115 m0100 i2000");
        fitsAre(x, 0, 1, 0, 0, 0);
        fitsAre(x, 0, 1, 99, 0, 99);
        fitsAre(x, 0, 1, 99, 0, 99, 1, 90, 60, 0, 0, 99);
        fitsAre(x, 1, 1, 61, 0, 61, 60, 61, 60, 61);
        fitsAre(x, 0, 10, 0, 1, 0);
        fitsAre(x, 0, 1, 10, 1, 1);
        fitsAre(x, 0, 1, 99, 1, 90);
        fitsAre(x, 0, 0, NONE, 1, 91);
        fitsAre(x, 0, 0, NONE, 60, 99);
        fitsAre(x, 0, 1, 1, 1, 0, 0, 1, 1, 0, 0, 1);
    }

    private static void fitsRefused() {
        SnowCitizens x = Check.north("z111111115 m2000");
        Check.lay(x, 0, 0, 20);
        check.sentence(35, "BAD;");
        check.allRefused(x, BAD, () -> x.fits(1, 0), () -> x.fits(-1, 0), () -> x.fits(MIN, 0), () -> x.fits(MAX, 0),
            () -> x.fits(0, 6), () -> x.fits(0, -1), () -> x.fits(0, MIN), () -> x.fits(0, MAX), () -> x.fits(1, 1));
        SnowCitizens none = new SnowCitizens();
        none.row(0, 0);
        check.allRefused(none, BAD, () -> none.fits(0, 0));
        check.sentence(35, "NOTHING;");
        check.allFound(x, NOTHING, () -> x.fits(0, 1), () -> x.fits(0, 5));
        check.sentence(35, "SIZE: not by pairs;");
        Check.lay(x, 1, 0);
        Check.lay(x, 2, 0, 20, 0);
        Check.lay(x, 3, 61, 100, -1);
        x.row(4, 39);
        check.allFound(x, SIZE, () -> x.fits(0, 1), () -> x.fits(0, 2), () -> x.fits(0, 3), () -> x.fits(0, 4));
        check.sentence(35, "UNLIKE: no 0 .. 60, no 0 .. 99.");
        int[][] wrong = {{61, 0}, {-1, 0}, {0, 100}, {0, -1}, {0, 20, 61, 0}, {0, 20, 0, 100}, {1, 7, 2, -1},
            {MIN, 0}, {MAX, 0}, {0, MIN}, {0, MAX}};
        for (int[] pairs : wrong) {
            SnowCitizens y = Check.north("z111111115 m2000");
            Check.lay(y, 0, pairs);
            check.allFound(y, UNLIKE, () -> y.fits(0, 0));
        }
    }

    private static void kindsAre(SnowCitizens x, int i, int set, int... pairs) {
        Check.lay(x, 5, pairs);
        check.due("kinds", x.kinds(i, 5), set);
    }

    private static void kinds() {
        check.sentence(36, "Of which KINDS (bits) it can be, so,");
        SnowCitizens x = Check.north("z650000005 m2000 i2000 s2010 l0100");
        kindsAre(x, 0, 63);
        kindsAre(x, 0, 63, 0, 20);
        kindsAre(x, 0, 0, 0, 19);
        SnowCitizens great = Check.north("z650000005 m9900");
        kindsAre(great, 0, 1, 0, 99, 1, 93, 8, 88);
        kindsAre(great, 0, 32, 0, 99, 1, 99);
        // By SUN 6 and then 5: 14 and 9, 15 and 11, 17 and 15, 13 and 7, 20 and 16.
        kindsAre(x, 0, 1, 1, 14);
        kindsAre(x, 0, 2 + 16, 1, 15);
        kindsAre(x, 0, 4, 1, 17);
        kindsAre(x, 0, 8, 1, 13);
        kindsAre(x, 0, 32, 1, 20);
        kindsAre(x, 1, 1, 2, 9);
        kindsAre(x, 1, 2 + 16, 2, 11);
        kindsAre(x, 1, 4, 2, 15);
        kindsAre(x, 1, 8, 2, 7);
        kindsAre(x, 1, 32, 2, 16);
        kindsAre(x, 1, 0, 1, 20, 2, 9);
        kindsAre(x, 3, 1 + 2 + 4 + 8 + 16, 1, 0);
        kindsAre(x, 3, 1 + 2 + 4 + 8 + 16 + 32, 60, 0);
        check.sentence(36, "its BULK and SHADE being as they are now.");
        // With SHADE 1: by 5, 4, 2, 6, and nothing of an ICED one.
        kindsAre(x, 2, 1, 1, 15);
        kindsAre(x, 2, 4, 1, 18);
        x.snow(2, 5);
        kindsAre(x, 2, 0, 1, 15);
        kindsAre(x, 2, 1, 1, 20);
        x.shade(2, 6);
        kindsAre(x, 2, 1 + 2 + 4 + 16 + 32, 60, 25, 0, 25);
        kindsAre(x, 2, 8, 1, 24);
        x.day();
        kindsAre(x, 2, 8, 1, 23);
        kindsAre(x, 2, 0, 1, 25);
    }

    private static void kindsRefused() {
        SnowCitizens x = Check.north("z111111115 m2000");
        Check.lay(x, 0, 0, 20);
        check.sentence(36, "BAD;");
        check.allRefused(x, BAD, () -> x.kinds(1, 0), () -> x.kinds(-1, 0), () -> x.kinds(MIN, 0),
            () -> x.kinds(MAX, 0), () -> x.kinds(0, 6), () -> x.kinds(0, -1), () -> x.kinds(0, MIN),
            () -> x.kinds(0, MAX), () -> x.kinds(1, 1));
        SnowCitizens none = new SnowCitizens();
        none.row(0, 0);
        check.allRefused(none, BAD, () -> none.kinds(0, 0));
        check.sentence(36, "NOTHING;");
        check.allFound(x, NOTHING, () -> x.kinds(0, 1), () -> x.kinds(0, 5));
        check.sentence(36, "SIZE;");
        Check.lay(x, 1, 0);
        Check.lay(x, 2, 0, 20, 0);
        Check.lay(x, 3, 61, 100, -1);
        x.row(4, 39);
        check.allFound(x, SIZE, () -> x.kinds(0, 1), () -> x.kinds(0, 2), () -> x.kinds(0, 3), () -> x.kinds(0, 4));
        check.sentence(36, "UNLIKE.");
        int[][] wrong = {{61, 0}, {-1, 0}, {0, 100}, {0, -1}, {0, 19, 61, 0}, {0, 20, 0, 100}, {1, 7, 2, -1},
            {MIN, 0}, {MAX, 0}, {0, MIN}, {0, MAX}};
        for (int[] pairs : wrong) {
            SnowCitizens y = Check.north("z111111115 m2000");
            Check.lay(y, 0, pairs);
            check.allFound(y, UNLIKE, () -> y.kinds(0, 0));
        }
    }

    private static void rights() {
        check.sentence(37, "By which RIGHTS (bits 1 .. 9) just MEN of a set (bits) have the RIGHT now");
        SnowCitizens x = Check.north("z900000005 m0100 m0900 l0300 m0800");
        check.due("all", x.rights(15), 1 << 1);
        check.due("without 0", x.rights(14), 1 << 2 | 1 << 3 | 1 << 4 | 1 << 5 | 1 << 6 | 1 << 7 | 1 << 8);
        check.due("without 0 and 3", x.rights(6), 1 << 9);
        check.due("without the LAWYER", x.rights(11), 0);
        check.due("nobody", x.rights(0), 0);
        check.due("the RIGHT stays", x.count(2), 5);
        x.right(9);
        check.due("by any RIGHT now", x.rights(15), 1 << 1);
        x.day();
        check.due("all are GONE", x.rights(0), 1022);
        check.due("none of them", x.rights(1), 0);
        SnowCitizens much = Check.north("z900000005 m9900");
        check.due("one, by all", much.rights(1), 1022);
        SnowCitizens six = Check.north("z000000005 m0100 m0200 m0300 m0400 m0500 m0600");
        for (int v = 1; v <= 6; v++) {
            check.due("just by " + v, six.rights(63 >> v - 1 << v - 1), 1 << v);
        }
        check.due("by 7, 8, 9", six.rights(0), 1 << 7 | 1 << 8 | 1 << 9);
        check.sentence(37, "(without MEN: by all nine, the set being empty).");
        SnowCitizens none = new SnowCitizens();
        check.due("no MEN", none.rights(0), 1022);
    }

    private static void rightsRefused() {
        check.sentence(37, "BAD: also MEN that there are not.");
        SnowCitizens x = Check.north("z111111115 m2000 m2000");
        check.allRefused(x, BAD, () -> x.rights(4), () -> x.rights(7), () -> x.rights(64), () -> x.rights(-1),
            () -> x.rights(MIN), () -> x.rights(MAX), () -> x.rights(1 << 30));
        SnowCitizens none = new SnowCitizens();
        check.allRefused(none, BAD, () -> none.rights(1), () -> none.rights(-1));
        SnowCitizens six = Check.north("z111111115 m2000 m2000 m2000 m2000 m2000 m2000");
        check.allRefused(six, BAD, () -> six.rights(64));
        check.due("all six", six.rights(63), 1022);
    }

    private static void gameIs(String text, int... carried) {
        SnowCitizens x = Check.north(text);
        for (int n = 0; n < carried.length; n++) {
            check.due("game " + n + " of " + text, x.game(n), carried[n]);
        }
        check.due("nothing is let by " + text, x.count(3), 0);
    }

    private static void gameTurns() {
        // In 3 DAYS of SUN 9 a MAN of 20 has the RIGHT (5) with a SHADE of 4 and more, one of 5 with 9, one of 99
        // by any.
        check.sentence(38, "By turns two parties let SHADE: the one of 1 begins;");
        gameIs("z999999995 m0591", 1, 0, 0);
        gameIs("z999999995 m9901 m0590", 0, 0, 0);
        gameIs("z999999995 m9901 m0580", 1, 1, 1);
        gameIs("z999999995 m0581 m9901 m9900", 0, 0, 0);
        check.sentence(38, "each the SHADE of one MAN 1 more or 1 less (0 .. 9),");
        gameIs("z999999995 m2001", 0, 0, 0);
        gameIs("z999999995 m2091", 1, 1, 1);
        gameIs("z111111118 m0811 m0811 m9900", 1, 0, 0);
        gameIs("z111111118 m1101 m1101 m9900", 1, 1, 1);
        gameIs("z999999995 m0891", 1, 0, 0);
        gameIs("z999999995 m0190 m2041 m9901 m9900", 1, 1, 1);
        check.sentence(38, "n (0 .. 2) times each;");
        gameIs("z999999995 m2031", 0, 0, 0);
        gameIs("z999999995 m2041", 1, 1, 1);
        gameIs("z999999995 m2041 m2041 m9900", 1, 0, 0);
        gameIs("z999999995 m2051 m2041 m9900", 1, 1, 1);
        gameIs("z999999995 m2061 m2061 m9900", 1, 1, 1);
        gameIs("z999999995 m2041 m9900", 0, 0, 0);
        gameIs("z999999995 m2040 m9901", 0, 0, 0);
        gameIs("z999999995 m2030 m9901", 1, 1, 1);
    }

    private static void gameEnds() {
        check.sentence(38, "the vote is 3 DAYS from now.");
        gameIs("z111111115 m0801", 1);
        gameIs("z111111115 m0701", 0);
        gameIs("z001000005 m0501", 0);
        gameIs("z000900005 m0501", 1);
        SnowCitizens x = Check.north("z900100005 m1401");
        check.due("from DAY 0", x.game(0), 1);
        x.day();
        check.due("from DAY 1", x.game(0), 0);
        x.undo(0);
        check.sentence(38, "Whether the motion is CARRIED then (1, 0), the one of 1 wanting so, the other one not,"
            + " both playing best.");
        gameIs("z000000005 m0501", 1, 1, 1);
        gameIs("z000000005 m0500", 0, 0, 0);
        gameIs("z000000005 m0501 m0500", 0, 0, 0);
        gameIs("z000000005 m0401", 0, 0, 0);
        gameIs("z999999995 m2041 m2041 m2041 m9900 m9900", 1, 0, 0);
        gameIs("z999999995 m2041 w2040", 1, 1, 1);
        gameIs("z999999995 m2031 w2040", 0, 0, 0);
        gameIs("z999999995 m2031 w2041", 1, 1, 1);
        gameIs("z999999995 s9900 m9900 m2040 m9901", 0, 0, 0);
        gameIs("z999999995 l1301 m9901 m9900 m9900", 0, 0, 0);
    }

    private static void gameOfAnother() {
        check.sentence(38, "Whether the motion is CARRIED then (1, 0),");
        SnowCitizens x = Check.north("z999999995 m9901");
        check.due("of one that votes 1", x.game(0) * 10 + x.game(1), 11);
        Check.write(x, 0, "z999999995 m9900");
        x.north(0);
        check.due("of one that votes 0, behind that", x.game(0) * 10 + x.game(1), 0);
        check.due("what to do first", x.first(1), NONE);
    }

    private static void gameRefused() {
        check.sentence(38, "BAD;");
        SnowCitizens x = Check.north("z999999995 m2041");
        check.allRefused(x, BAD, () -> x.game(3), () -> x.game(-1), () -> x.game(4), () -> x.game(MIN),
            () -> x.game(MAX));
        check.sentence(38, "STATE.");
        SnowCitizens none = new SnowCitizens();
        check.allRefused(none, STATE, () -> none.game(0), () -> none.game(2));
        check.allRefused(none, BAD, () -> none.game(3), () -> none.game(-1));
    }

    private static void firstIs(String text, int... moves) {
        SnowCitizens x = Check.north(text);
        for (int n = 1; n <= moves.length; n++) {
            check.due("first " + n + " of " + text, x.first(n), moves[n - 1]);
            check.due("as game() tells", x.game(n), moves[n - 1] == NONE ? 0 : 1);
        }
        check.due("nothing is let by " + text, x.count(3), 0);
    }

    private static void first() {
        check.sentence(39, "What the one of 1 does first so: 2 times the MAN, and 1 more, if it is less SHADE");
        firstIs("z999999995 m2041", 0, 0);
        firstIs("z999999995 m9901 m2030", 3, 3);
        firstIs("z999999995 m9901 m0100 m0100 m0100 m0100 m2030", 11, 11);
        firstIs("z999999995 m9901 m9900 m0100 m0100 m0100 m2041", 10, 10);
        firstIs("z999999995 m9991 m9991", 1, 1);
        firstIs("z999999995 m9901 m9901", 0, 0);
        check.sentence(39, "(the first by which it is CARRIED).");
        firstIs("z999999995 m9900 m2041 m2061", 2, 2);
        firstIs("z999999995 m2061 m2061 m9900", 0, 0);
        firstIs("z999999995 m2041 m2051 m9900", 0, 0);
        firstIs("z999999995 m2091 m2041 m9900", 2, 2);
        check.sentence(39, "NONE: by none.");
        firstIs("z999999995 m2031", NONE, NONE);
        firstIs("z999999995 m0591", NONE, NONE);
        firstIs("z999999995 m0891", NONE, NONE);
        firstIs("z000000005 m0500", NONE, NONE);
    }

    private static void firstRefused() {
        check.sentence(39, "BAD: also n 0;");
        SnowCitizens x = Check.north("z999999995 m2041");
        check.allRefused(x, BAD, () -> x.first(0), () -> x.first(3), () -> x.first(-1), () -> x.first(MIN),
            () -> x.first(MAX));
        check.sentence(39, "STATE.");
        SnowCitizens none = new SnowCitizens();
        check.allRefused(none, STATE, () -> none.first(1), () -> none.first(2));
        check.allRefused(none, BAD, () -> none.first(0), () -> none.first(3));
    }
}
