/** Promises 30 to 34: the least shade, the least snow, the census. */
public final class LeastTest {
    private static final Check check = new Check("LeastTest");
    private static final int NONE = SnowCitizens.NONE;

    public static void main(String[] args) {
        guard();
        bribe();
        bribeOfAlike();
        bribeToTheEnds();
        bribeRefused();
        carry();
        census();
        counted();
        check.end();
    }

    private static void guard() {
        // By a SUN of 5: a MAN of 12 is kept for 3 DAYS by SHADE 2 (3 a DAY), a HATTED one of 12 by 1.
        SnowCitizens x = Check.north("z555555555 m1200 h1200 m0140 m1261");
        check.due("30 of all", x.guard(15, 3, 2), 2 + 1 + 1);
        check.row("30 the SHADES", x, 2, 2, 1, 5, 6);
        check.due("30 of one", x.guard(2, 3, 2), 1);
        check.row("30 the SHADES of all", x, 2, 0, 1, 4, 6);
        check.due("30 of none", x.guard(0, 60, 2), 0);
        check.row("30 the SHADES now", x, 2, 0, 0, 4, 6);
        check.due("30 now", x.guard(15, 0, 2), 0);
        check.due("30 the SHADE itself stays", x.shade(2, 4), 4);
        x.shade(0, 3);
        x.day();
        check.due("30 no less SHADE", x.guard(1, 1, 2), 0);
        check.row("30 no less than now", x, 2, 3, 0, 4, 6);
        check.due("30 from now", x.guard(1, 5, 2), 1);
        SnowCitizens sunny = Check.north("z555555555 s0300 m0300");
        Check.lay(sunny, 0, 7);
        check.refused("30 by none", sunny, NONE, () -> sunny.guard(3, 3, 0));
        check.row("30 the ROW stays", sunny, 0, 7);
        check.due("30 with the other one alone", sunny.guard(2, 3, 0), 5);
        SnowCitizens most = Check.north("z999999995 m0180");
        check.due("30 by the most SHADE", most.guard(1, 60, 0), 1);
        sunny.day();
        check.refused("30 who is GONE", sunny, NONE, () -> sunny.guard(1, 0, 0));
        check.refused("30 no ROW", x, -1, () -> x.guard(1, 0, 6));
        check.refused("30 no ROW ahead", x, -1, () -> x.guard(1, 0, -1));
        check.refused("30 no such MEN", x, -1, () -> x.guard(16, 0, 0));
        check.refused("30 bits below 0", x, -1, () -> x.guard(-1, 0, 0));
        check.refused("30 61 DAYS", x, -1, () -> x.guard(1, 61, 0));
        check.refused("30 -1 DAYS", x, -1, () -> x.guard(1, -1, 0));
        SnowCitizens none = new SnowCitizens();
        check.refused("30 no MEN", none, -4, () -> none.guard(0, 0, 0));
        check.refused("30 no MEN, a set of them", none, -1, () -> none.guard(1, 0, 0));
    }

    private static void bribe() {
        // In 2 DAYS a MAN of 15 has the RIGHT (5) just with a SHADE of 4 and more: a SUN of 9.
        SnowCitizens x = Check.north("z999999995 m1520 m1561");
        check.due("31 CARRIED as it is", x.bribe(1, 2, 0), 0);
        check.row("31 the SHADES now", x, 0, 2, 6);
        check.due("31 not CARRIED by more SHADE", x.bribe(0, 2, 0), 2);
        check.row("31 the one of 0 has the RIGHT", x, 0, 4, 6);
        x.shade(1, 4);
        check.due("31 not CARRIED by less SHADE", x.bribe(0, 2, 0), 1);
        check.row("31 the one of 1 has not", x, 0, 2, 3);
        x.shade(1, 3);
        check.due("31 not CARRIED as it is", x.bribe(0, 2, 3), 0);
        check.due("31 CARRIED by more SHADE", x.bribe(1, 2, 3), 1);
        check.row("31 the one of 1 has the RIGHT", x, 3, 2, 4);
        check.due("31 now, CARRIED by none", x.bribe(1, 0, 3), NONE);
        check.row("31 the ROW stays", x, 3, 2, 4);
        check.due("31 now, not CARRIED", x.bribe(0, 0, 3), 0);
        check.row("31 the SHADES now, too", x, 3, 2, 3);
    }

    private static void bribeOfAlike() {
        // Both of 1 lack one SHADE, the one of 0 has the RIGHT: by both, then, or by neither with it out.
        SnowCitizens x = Check.north("z999999995 m1531 m1540 m1531");
        check.due("31 two SHADES", x.bribe(1, 2, 0), 2);
        check.row("31 of alike sums the least bits", x, 0, 4, 3, 3);
        SnowCitizens y = Check.north("z999999995 m1531 m1531");
        check.due("31 one SHADE", y.bribe(1, 2, 0), 1);
        check.row("31 the bits of 0, not those of 1", y, 0, 4, 3);
        SnowCitizens both = Check.north("z999999995 m1541 m1540 m1540 m1541");
        check.due("31 it is not CARRIED", both.bribe(0, 2, 0), 0);
        check.due("31 one SHADE less", both.bribe(1, 2, 0), 1);
        check.row("31 without 2: the bits 1, 3", both, 0, 4, 4, 3, 4);
    }

    private static void bribeToTheEnds() {
        // A MAN of 5 has the RIGHT (5) under a SUN of 9 just with a SHADE of 9.
        SnowCitizens x = Check.north("z999999995 m0501");
        check.due("31 from 0 to 9", x.bribe(1, 3, 0), 9);
        check.row("31 to 9", x, 0, 9);
        // A MAN of 8 has the RIGHT (8) under a SUN of 1 with a SHADE of 1 and more.
        SnowCitizens y = Check.north("z111111118 m0891");
        check.due("31 from 9 to 0", y.bribe(0, 1, 0), 9);
        check.row("31 to 0", y, 0, 0);
        SnowCitizens low = Check.north("z000000005 m0501");
        check.due("31 no SHADE below 0", low.bribe(0, 9, 0), NONE);
        SnowCitizens high = Check.north("z999999995 s0581");
        check.due("31 no SHADE above 9", high.bribe(1, 1, 0), NONE);
        SnowCitizens between = Check.north("z999999995 m2001 m2090");
        check.due("31 of 0 by less, of 1 by more", between.bribe(1, 2, 0), 10);
        check.row("31 by less and more", between, 0, 2, 1);
    }

    private static void bribeRefused() {
        SnowCitizens x = Check.north("z999999995 m1520");
        check.refused("31 no ROW", x, -1, () -> x.bribe(1, 0, 6));
        check.refused("31 no ROW ahead", x, -1, () -> x.bribe(1, 0, -1));
        check.refused("31 neither", x, -1, () -> x.bribe(2, 0, 0));
        check.refused("31 neither ahead", x, -1, () -> x.bribe(-1, 0, 0));
        check.refused("31 61 DAYS", x, -1, () -> x.bribe(1, 61, 0));
        check.refused("31 -1 DAYS", x, -1, () -> x.bribe(1, -1, 0));
        check.refused("31 by none", x, NONE, () -> x.bribe(1, 2, 0));
        SnowCitizens none = new SnowCitizens();
        check.refused("31 no MEN", none, -4, () -> none.bribe(1, 0, 0));
        check.refused("31 BAD ahead of STATE", none, -1, () -> none.bribe(2, 0, 0));
    }

    private static void carry() {
        SnowCitizens x = Check.north("z333333335 m0600 l0600 m9000 m0200");
        check.due("32 it has it now", x.carry(0, 0), 0);
        check.due("32 2 more", x.carry(0, 1), 2);
        check.due("32 5 more", x.carry(0, 2), 5);
        check.due("32 more than 9", x.carry(0, 10), 29);
        check.due("32 to 99", x.carry(0, 31), 92);
        x.right(6);
        check.due("32 just to 99", x.carry(0, 31), 93);
        x.right(5);
        check.due("32 by none", x.carry(2, 32), NONE);
        check.due("32 a LAWYER", x.carry(1, 3), 1);
        check.due("32 99 at most", x.carry(2, 31), 8);
        x.day();
        check.due("32 it is GONE now", x.carry(3, 0), NONE);
        check.refused("32 no MAN", x, -1, () -> x.carry(4, 0));
        check.refused("32 no MAN ahead", x, -1, () -> x.carry(-1, 0));
        check.refused("32 61 DAYS", x, -1, () -> x.carry(0, 61));
        check.refused("32 -1 DAYS", x, -1, () -> x.carry(0, -1));
    }

    private static void census() {
        SnowCitizens x = Check.north("z111111115 m9900 m0200 m0100 m0300");
        check.due("33 all", x.census(4), 4);
        check.row("33 the only order", x, 4, 2, 1, 3, 0);
        SnowCitizens same = Check.north("z111111115 m0200 m0100 m0200 m0100");
        check.due("33 two of four", same.census(0), 2);
        check.row("33 the first order of those", same, 0, 0, 2, 1, 3);
        SnowCitizens lasting = Check.north("z000000005 m0200 m0100 m0200");
        check.due("33 all in any order", lasting.census(0), 3);
        check.row("33 the first order", lasting, 0, 0, 1, 2);
        SnowCitizens gone = Check.north("z900000005 m0200 m9900 m1000");
        gone.day();
        check.due("33 who is GONE now", gone.census(0), 2);
        check.row("33 the first order with who is GONE", gone, 0, 0, 1, 2);
        SnowCitizens fewer = Check.north("z000000005 m2000 m2000 m2000 m2000 m2000 m2000");
        fewer.census(0);
        Check.write(fewer, 1, "z900000005 m0200 m0200");
        fewer.north(1);
        check.due("33 of fewer MEN behind that", fewer.census(0), 1);
        check.row("33 as many places as MEN", fewer, 0, 0, 1);
        check.refused("33 no ROW", x, -1, () -> x.census(6));
        check.refused("33 no ROW ahead", x, -1, () -> x.census(-1));
        SnowCitizens none = new SnowCitizens();
        check.refused("33 no MEN", none, -4, () -> none.census(0));
        check.refused("33 BAD ahead of STATE", none, -1, () -> none.census(6));
    }

    private static void counted() {
        SnowCitizens x = Check.north("z111111115 m9900 m0200 m0100 m0300");
        Check.lay(x, 0, 2, 1, 3, 0);
        check.due("34 all", x.counted(0), 4);
        Check.lay(x, 0, 3, 2, 1, 0);
        check.due("34 two are late", x.counted(0), 2);
        Check.lay(x, 0, 0, 1, 2, 3);
        check.due("34 as they stand", x.counted(0), 2);
        check.refused("34 no ROW", x, -1, () -> x.counted(6));
        check.refused("34 no ROW ahead", x, -1, () -> x.counted(-1));
        check.found("34 missing", x, 1, () -> x.counted(1));
        x.row(1, 5);
        check.found("34 too many", x, 5, () -> x.counted(1));
        x.row(1, 0);
        check.found("34 none", x, 5, () -> x.counted(1));
        Check.lay(x, 1, 0, 1, 2, 2);
        check.found("34 one twice", x, 3, () -> x.counted(1));
        Check.lay(x, 1, 0, 1, 2, 4);
        check.found("34 one that is none", x, 3, () -> x.counted(1));
        Check.lay(x, 1, 0, -1, 2, 3);
        check.found("34 one below 0", x, 3, () -> x.counted(1));
        Check.lay(x, 1, 32, 33, 34, 35);
        check.found("34 far numbers", x, 3, () -> x.counted(1));
        SnowCitizens none = new SnowCitizens();
        check.refused("34 no MEN, ahead of NOTHING", none, -4, () -> none.counted(0));
        check.refused("34 BAD ahead of STATE", none, -1, () -> none.counted(6));
    }
}
