/** Promises 16 to 22: DEEDS, what is undone, NORTHS that are kept. */
public final class DeedsTest {
    private static final Check check = new Check("DeedsTest");

    public static void main(String[] args) {
        day();
        dayByKinds();
        shade();
        snow();
        undo();
        now();
        keep();
        on();
        check.end();
    }

    /** A NORTH with 60 DEEDS, all of SHADE. */
    private static SnowCitizens full(String text) {
        SnowCitizens x = Check.north(text);
        for (int k = 0; k < 60; k++) {
            x.shade(0, k % 10);
        }
        return x;
    }

    private static void day() {
        SnowCitizens x = Check.north("z234567895 m0300 m0500 m0600");
        check.due("16 the first DAY", x.day(), 3);
        check.due("16 it is DAY 1", x.now(), 1);
        check.due("16 the second DAY", x.day(), 1);
        check.due("16 who is left", x.bulk(2, 0), 1);
        check.due("16 just 0 is GONE", x.bulk(1, 0), 0);
        check.due("16 none is left", x.day(), 0);
        check.due("16 DAYS go on", x.day(), 0);
        check.due("16 DEEDS", x.count(3), 4);
        SnowCitizens none = new SnowCitizens();
        check.refused("16 no MEN", none, -4, none::day);
        SnowCitizens y = full("z000000005 m2000");
        check.refused("16 full", y, -2, y::day);
        y.undo(59);
        check.due("16 the 60th", y.day(), 1);
        check.refused("16 full by a DAY", y, -2, y::day);
    }

    private static void dayByKinds() {
        // SUN 7, 8: each MAN with SHADE 2, then 5 and 6 are left of it.
        SnowCitizens x = Check.north("z780000005 m5020 h5020 w5020 s5020 l5020 i5020");
        x.day();
        int[] then = {45, 46, 48, 44, 46, 50};
        for (int i = 0; i < 6; i++) {
            check.due("16 DAY 0 of " + i, x.bulk(i, 0), then[i]);
        }
        x.day();
        int[] behind = {39, 41, 45, 37, 41, 45};
        for (int i = 0; i < 6; i++) {
            check.due("16 DAY 1 of " + i, x.bulk(i, 0), behind[i]);
        }
        x.day();
        int[] dark = {39, 41, 45, 36, 41, 45};
        for (int i = 0; i < 6; i++) {
            check.due("16 DAY 2, without a SUN, of " + i, x.bulk(i, 0), dark[i]);
        }
    }

    private static void shade() {
        SnowCitizens x = Check.north("z999999995 m2030 m2040");
        check.due("17 it was", x.shade(1, 9), 4);
        check.due("17 it was then", x.shade(1, 0), 9);
        check.due("17 as it is", x.shade(0, 3), 3);
        check.due("17 DEEDS", x.count(3), 3);
        x.day();
        check.due("17 it MELTS by it", x.bulk(1, 0), 11);
        check.due("17 the other one by its own", x.bulk(0, 0), 14);
        check.refused("17 no MAN", x, -1, () -> x.shade(2, 0));
        check.refused("17 no MAN ahead", x, -1, () -> x.shade(-1, 0));
        check.refused("17 too much", x, -1, () -> x.shade(0, 10));
        check.refused("17 too little", x, -1, () -> x.shade(0, -1));
        SnowCitizens none = new SnowCitizens();
        check.refused("17 no MEN", none, -1, () -> none.shade(0, 0));
        SnowCitizens y = full("z999999995 m0100");
        check.refused("17 full", y, -2, () -> y.shade(0, 1));
        check.refused("17 BAD ahead of FULL", y, -1, () -> y.shade(0, 10));
        y.undo(0);
        y.day();
        check.due("17 of one that is GONE", y.shade(0, 5), 0);
    }

    private static void snow() {
        SnowCitizens x = Check.north("z999999995 m2000 m9500 m0900");
        check.due("18 its BULK then", x.snow(0, 9), 29);
        check.due("18 99 at most", x.snow(1, 9), 99);
        check.due("18 no more than 99", x.snow(1, 1), 99);
        check.due("18 DEEDS", x.count(3), 3);
        check.refused("18 none", x, -1, () -> x.snow(0, 0));
        check.refused("18 too much", x, -1, () -> x.snow(0, 10));
        check.refused("18 no MAN", x, -1, () -> x.snow(3, 1));
        check.refused("18 no MAN ahead", x, -1, () -> x.snow(-1, 1));
        x.day();
        check.refused("18 it is GONE", x, -4, () -> x.snow(2, 1));
        check.refused("18 BAD ahead of STATE", x, -1, () -> x.snow(2, 0));
        SnowCitizens y = full("z999999995 m2000");
        check.refused("18 full", y, -2, () -> y.snow(0, 1));
        y.undo(59);
        check.due("18 the 60th", y.snow(0, 1), 21);
        SnowCitizens z = Check.north("z999999995 m2000 m0900");
        for (int k = 0; k < 60; k++) {
            z.day();
        }
        check.refused("18 STATE ahead of FULL", z, -4, () -> z.snow(0, 1));
    }

    private static void undo() {
        SnowCitizens x = Check.north("z345678915 m2000 i9500");
        x.day();
        x.snow(1, 9);
        x.shade(0, 7);
        x.day();
        x.right(2);
        long behind = x.digest();
        check.due("19 none", x.undo(4), 0);
        check.due("19 none changes nothing", x.digest(), behind);
        check.refused("19 too many", x, -1, () -> x.undo(5));
        check.refused("19 below 0", x, -1, () -> x.undo(-1));
        check.due("19 the last one", x.undo(3), 1);
        check.due("19 the DAY ahead", x.now(), 1);
        check.due("19 the BULK ahead", x.bulk(0, 0), 17);
        check.due("19 the SHADE stays", x.shade(0, 7), 7);
        check.due("19 SNOW and SHADE", x.undo(1), 3);
        check.due("19 the SNOW is undone", x.bulk(1, 0), 95);
        check.due("19 the SHADE is undone", x.shade(0, 1), 0);
        check.due("19 all", x.undo(0), 2);
        check.due("19 as it began", x.bulk(0, 0), 20);
        check.due("19 the RIGHT stays", x.count(2), 2);
        check.due("19 no DEEDS", x.count(3), 0);
        SnowCitizens y = Check.north("z999999995 m0500");
        y.day();
        check.due("19 a DAY alone", y.undo(0), 1);
        check.due("19 who was GONE is not", y.bulk(0, 0), 5);
        SnowCitizens none = new SnowCitizens();
        check.due("19 no MEN", none.undo(0), 0);
        check.refused("19 no MEN, one DEED", none, -1, () -> none.undo(1));
        SnowCitizens lots = Check.north("z999999995 m9900");
        lots.lots(3, 12, 1);
        lots.lots(2, 0, 1);
        check.due("19 some LOTS", lots.undo(4), 1);
        check.due("19 clouds stay clouds", lots.bulk(0, 0), 90);
    }

    private static void now() {
        SnowCitizens x = Check.north("z500000005 m0500 m0600 m0400 m9900");
        check.due("20 DAY 0", x.now(), 0);
        check.due("20 all MEN", x.asked(), 15);
        x.day();
        check.due("20 DAY 1", x.now(), 1);
        check.due("20 who is not GONE", x.asked(), 10);
        SnowCitizens none = new SnowCitizens();
        check.refused("20 no MEN", none, -4, none::now);
    }

    private static void keep() {
        SnowCitizens x = Check.north("z111111115 m2000");
        check.due("21 no DEEDS yet", x.keep(2), 0);
        x.day();
        x.day();
        check.due("21 two DEEDS", x.keep(0), 2);
        check.due("21 kept NORTHS", x.count(8), 2);
        check.due("21 kept again", x.keep(2), 2);
        check.due("21 in its place", x.count(8), 2);
        check.refused("21 no place", x, -1, () -> x.keep(3));
        check.refused("21 no place ahead", x, -1, () -> x.keep(-1));
        SnowCitizens none = new SnowCitizens();
        check.refused("21 no MEN", none, -4, () -> none.keep(0));
        check.refused("21 BAD ahead of STATE", none, -1, () -> none.keep(3));
    }

    private static void on() {
        SnowCitizens x = Check.north("z345678915 m2000 s3010");
        x.day();
        x.shade(1, 6);
        x.right(3);
        x.keep(1);
        long kept = x.digest();
        x.snow(0, 5);
        x.day();
        x.right(8);
        x.undo(0);
        x.snow(1, 9);
        x.shade(0, 9);
        x.shade(1, 2);
        check.due("22 its DEEDS", x.on(1), 2);
        check.due("22 as it was kept", x.digest(), kept);
        check.due("22 the DAY as it was", x.now(), 1);
        check.due("22 the BULK as it was", x.bulk(0, 0), 17);
        check.due("22 the RIGHT as it was", x.count(2), 3);
        check.due("22 its DEEDS can be undone", x.undo(1), 1);
        check.due("22 to the BULK ahead", x.bulk(1, 0), 30 - 3);
        check.due("22 to the SHADE ahead", x.shade(1, 1), 1);
        check.due("22 and again", x.on(1), 2);
        check.due("22 as it was kept, still", x.digest(), kept);
        check.found("22 nothing is kept", x, 1, () -> x.on(0));
        check.refused("22 no place", x, -1, () -> x.on(3));
        check.refused("22 no place ahead", x, -1, () -> x.on(-1));
        SnowCitizens none = new SnowCitizens();
        check.found("22 no MEN", none, 1, () -> none.on(0));
        onUndone();
    }

    private static void onUndone() {
        SnowCitizens x = Check.north("z345678915 m2000 s3010");
        x.snow(1, 4);
        x.shade(0, 7);
        x.day();
        x.keep(0);
        x.undo(0);
        x.day();
        x.snow(0, 8);
        x.shade(1, 5);
        x.keep(2);
        x.on(0);
        x.undo(2);
        check.due("22 just its own DEEDS are done again: SNOW", x.bulk(1, 0), 34);
        check.due("22 not those behind", x.bulk(0, 0), 20);
        check.due("22 SHADE", x.shade(0, 0), 7);
        check.due("22 the DAY", x.now(), 0);
        x.on(2);
        x.undo(2);
        check.due("22 the other one's SNOW", x.bulk(0, 0), 25);
        check.due("22 the other one's DAY", x.bulk(1, 0), 30 - 3);
    }
}
