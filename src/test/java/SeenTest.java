/** Promises 35 to 39: what was seen, and what is played by turns. */
public final class SeenTest {
    private static final Check check = new Check("SeenTest");
    private static final int NONE = SnowCitizens.NONE;

    public static void main(String[] args) {
        fits();
        kinds();
        seenRefused();
        rights();
        gameOfOne();
        gameOfTwo();
        gameByTheEnds();
        first();
        gameRefused();
        check.end();
    }

    private static void fitsAre(String label, SnowCitizens x, int i, int sum, int least) {
        check.due("35 " + label, x.fits(i, 0), sum);
        check.due("35 " + label + " (the least)", x.asked(), least);
    }

    private static void fits() {
        SnowCitizens x = Check.north("z333333335 m2000 m2010");
        Check.lay(x, 0);
        fitsAre("none was seen", x, 0, 100, 0);
        Check.lay(x, 0, 2, 14);
        fitsAre("one", x, 0, 1, 20);
        fitsAre("of another MAN", x, 1, 1, 18);
        Check.lay(x, 0, 2, 0);
        fitsAre("it was GONE", x, 0, 7, 0);
        Check.lay(x, 0, 2, 0, 1, 2);
        fitsAre("it was GONE, but not ahead", x, 0, 1, 5);
        Check.lay(x, 0, 0, 7);
        fitsAre("now", x, 0, 1, 7);
        Check.lay(x, 0, 60, 0);
        fitsAre("60 DAYS from now", x, 0, 100, 0);
        Check.lay(x, 0, 1, 99);
        fitsAre("too much", x, 0, 0, NONE);
        Check.lay(x, 0, 1, 10, 1, 11);
        fitsAre("this and that", x, 0, 0, NONE);
        Check.lay(x, 0, 1, 96);
        fitsAre("all of it", x, 0, 1, 99);
        x.day();
        Check.lay(x, 0, 2, 14);
        fitsAre("from now", x, 0, 1, 20);
    }

    private static void kinds() {
        // SUN 6, 4: from 20, SHADE 0, they come by two DAYS to 10, 12, 15, 8, 12, 17 (ICED: just DAY 1).
        SnowCitizens x = Check.north("z640000005 m2000 s2010");
        Check.lay(x, 0);
        check.due("36 none was seen", x.kinds(0, 0), 63);
        int[] then = {10, 12, 15, 8, 12, 17};
        int[] bits = {1, 2 | 16, 4, 8, 2 | 16, 32};
        for (int kind = 0; kind < 6; kind++) {
            Check.lay(x, 0, 2, then[kind]);
            check.due("36 as KIND " + kind, x.kinds(0, 0), bits[kind]);
        }
        Check.lay(x, 0, 1, 15, 2, 12);
        check.due("36 by both pairs", x.kinds(0, 0), 2 | 16);
        Check.lay(x, 0, 2, 11);
        check.due("36 of none", x.kinds(0, 0), 0);
        Check.lay(x, 0, 1, 15);
        check.due("36 by the SHADE of another MAN", x.kinds(1, 0), 1);
        x.snow(0, 5);
        Check.lay(x, 0, 2, 15);
        check.due("36 by the BULK now", x.kinds(0, 0), 1);
        check.due("36 asked() stays", x.asked(), 0);
    }

    private static void seenRefused() {
        SnowCitizens x = Check.north("z333333335 m2000");
        SnowCitizens none = new SnowCitizens();
        none.row(0, 0);
        seenRefusedBy("35", x, none, x::fits, none::fits);
        x.tear(0);
        seenRefusedBy("36", x, none, x::kinds, none::kinds);
    }

    private interface Call {
        int of(int i, int r);
    }

    private static void seenRefusedBy(String promise, SnowCitizens x, SnowCitizens none, Call call, Call ofNone) {
        check.refused(promise + " no MAN", x, -1, () -> call.of(1, 0));
        check.refused(promise + " no MAN ahead", x, -1, () -> call.of(-1, 0));
        check.refused(promise + " no ROW", x, -1, () -> call.of(0, 6));
        check.refused(promise + " no ROW ahead", x, -1, () -> call.of(0, -1));
        check.refused(promise + " no MEN", none, -1, () -> ofNone.of(0, 0));
        check.found(promise + " missing", x, 1, () -> call.of(0, 0));
        Check.lay(x, 0, 61, 0, 0);
        check.found(promise + " not by pairs", x, 5, () -> call.of(0, 0));
        Check.lay(x, 0, 61, 0);
        check.found(promise + " 61 DAYS", x, 3, () -> call.of(0, 0));
        Check.lay(x, 0, 0, 20, -1, 0);
        check.found(promise + " -1 DAYS", x, 3, () -> call.of(0, 0));
        Check.lay(x, 0, 0, 100);
        check.found(promise + " a BULK of 100", x, 3, () -> call.of(0, 0));
        Check.lay(x, 0, 0, 5, 0, -1);
        check.found(promise + " a BULK of -1", x, 3, () -> call.of(0, 0));
        Check.lay(x, 0, 60, 99);
        check.due(promise + " the greatest", call.of(0, 0), 0);
    }

    private static void rights() {
        SnowCitizens x = Check.north("z000000005 m0400 m0700 l0100 m9900");
        check.due("37 all", x.rights(15), 2 + 4 + 8 + 16);
        check.due("37 without 0", x.rights(14), 32 + 64 + 128);
        check.due("37 without 0, 1", x.rights(12), 256 + 512);
        check.due("37 by none", x.rights(7), 0);
        check.due("37 nobody", x.rights(0), 0);
        check.due("37 the RIGHT stays", x.count(2), 5);
        check.refused("37 no such MEN", x, -1, () -> x.rights(16));
        check.refused("37 bits below 0", x, -1, () -> x.rights(-1));
        SnowCitizens none = new SnowCitizens();
        check.due("37 no MEN", none.rights(0), 1022);
        check.refused("37 no MEN, a set of them", none, -1, () -> none.rights(1));
        SnowCitizens gone = Check.north("z900000005 m0400 l0800");
        gone.day();
        check.due("37 all are GONE", gone.rights(0), 1022);
        check.due("37 none of them", gone.rights(3), 0);
    }

    private static void gameOfOne() {
        // A MAN of 20 has the RIGHT (5) after 3 DAYS of SUN 9 just with a SHADE of 4 and more.
        SnowCitizens x = Check.north("z999999995 m2031");
        check.due("38 none moves", x.game(0), 0);
        check.due("38 the other one takes it back", x.game(1), 0);
        x.shade(0, 4);
        check.due("38 it has it", x.game(0), 1);
        check.due("38 1 more stands 1 less", x.game(1), 1);
        check.due("38 twice, too", x.game(2), 1);
        SnowCitizens noughts = Check.north("z999999995 m2040");
        check.due("38 not CARRIED without votes", noughts.game(2), 0);
        // At SHADE 9 there is no more, and 9 is more than enough.
        SnowCitizens high = Check.north("z999999995 m2091");
        check.due("38 with less alone", high.game(2), 1);
        SnowCitizens low = Check.north("z999999995 m2001");
        check.due("38 with more alone", low.game(2), 0);
    }

    private static void gameOfTwo() {
        // The one of 1 gives 0 the RIGHT; the other one takes it back, having nothing better.
        SnowCitizens x = Check.north("z999999995 m2031 m2000");
        check.due("38 the last word", x.game(1), 0);
        // Two at SHADE 4 of 1, one of 0 far from it: by one less of one there is still the other.
        SnowCitizens two = Check.north("z999999995 m2041 m2041 m2000");
        check.due("38 one is left", two.game(1), 1);
        check.due("38 one is left of two", two.game(2), 1);
        // Both parties can waste a turn on one that is GONE by then anyway.
        SnowCitizens idle = Check.north("z999999995 m0141 m2041");
        check.due("38 an idle turn first loses nothing", idle.game(1), 1);
        check.due("38 the SHADES stay", idle.shade(1, 4), 4);
    }

    private static void gameByTheEnds() {
        // A MAN of 5 has the RIGHT just with SHADE 9, one of 8 with 8 and 9, one of 20 with 4 and more.
        check.due("38 no more than 9: it must be less", Check.north("z999999995 m0591").game(1), 0);
        check.due("38 nobody may stand still", Check.north("z999999995 m0891").game(1), 0);
        check.due("38 to 9 by the other one", Check.north("z999999995 m9901 m0590").game(1), 0);
        // Under a SUN of 1 a MAN of 8 has the RIGHT (8) with SHADE 1 and more.
        check.due("38 to 0 by the other one", Check.north("z111111118 m0811 m0811 m9900").game(1), 0);
        // With a BULK of 32 a MAN has it under a SUN of 9 with any SHADE.
        check.due("38 not below 0", Check.north("z999999995 m3201 m3201 m9900").game(1), 1);
        SnowCitizens both = Check.north("z999999995 m2041 m2041 m9900");
        check.due("38 both stand", both.game(0), 1);
        check.due("38 both can't be kept", both.game(1), 0);
        check.due("38 both can't be kept in two turns", both.game(2), 0);
        check.due("39 by none in two turns", both.first(2), NONE);
        both.right(9);
        check.due("38 both are out by another RIGHT", both.game(0), 0);
        both.shade(1, 9);
        both.shade(0, 9);
        check.due("38 both stand far from it", both.game(2), 1);
        Check.write(both, 1, "z999999995 m9900");
        both.north(1);
        check.due("38 of one MAN of 0 behind that", both.game(0), 0);
        Check.write(both, 1, "z999999995 m2041 m2041 m9900");
        both.north(1);
        both.game(0);
        Check.write(both, 1, "z999999995 m9901");
        both.north(1);
        check.due("38 of one MAN of 1 behind that", both.game(0), 1);
    }

    private static void first() {
        SnowCitizens x = Check.north("z999999995 m2041");
        check.due("39 1 more", x.first(1), 0);
        check.due("39 1 more of two", x.first(2), 0);
        SnowCitizens none = Check.north("z999999995 m2031");
        check.due("39 by none", none.first(1), NONE);
        // The one of 0 (MAN 0) must lose the RIGHT: at SHADE 4 it has it, at 3 not; 1 is of 1 for good.
        SnowCitizens less = Check.north("z999999995 m2040 m9901 m9901 m9900");
        check.due("39 CARRIED by 2 to 1 at best", less.game(1), 0);
        SnowCitizens move = Check.north("z999999995 m2061 m2031");
        check.due("39 the first of many", move.first(1), 0);
        SnowCitizens second = Check.north("z999999995 m0100 m2041");
        check.due("39 only 1 more of MAN 1", second.first(1), 2);
        check.due("39 nobody may stand still", Check.north("z999999995 m0891").first(1), NONE);
        // MAN 0 must not be less; MAN 1 needs 1 more.
        SnowCitizens tried = Check.north("z999999995 m0891 m2041 m9900");
        check.due("39 what was tried is taken back", tried.first(1), 2);
        // At SHADE 9 of all the first move that there is is 1 less of MAN 0.
        SnowCitizens high = Check.north("z999999995 m9991 m9991");
        check.due("39 less alone", high.first(2), 1);
        check.due("39 the SHADES stay", high.shade(0, 9), 9);
    }

    private static void gameRefused() {
        SnowCitizens x = Check.north("z999999995 m2031");
        check.refused("38 3 times", x, -1, () -> x.game(3));
        check.refused("38 -1 times", x, -1, () -> x.game(-1));
        check.refused("39 3 times", x, -1, () -> x.first(3));
        check.refused("39 none", x, -1, () -> x.first(0));
        check.refused("39 -1 times", x, -1, () -> x.first(-1));
        SnowCitizens none = new SnowCitizens();
        check.refused("38 no MEN", none, -4, () -> none.game(0));
        check.refused("38 BAD ahead of STATE", none, -1, () -> none.game(3));
        check.refused("39 no MEN", none, -4, () -> none.first(1));
        check.refused("39 BAD ahead of STATE", none, -1, () -> none.first(0));
    }
}
