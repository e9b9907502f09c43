/** Promises 10 to 15: a NORTH by a TEXT, what is told of its MEN, its SUN and its RIGHT. */
public final class NorthsTest {
    private static final Check check = new Check("NorthsTest");

    public static void main(String[] args) {
        fault();
        faultsOfFigures();
        faultsRefused();
        north();
        northAnew();
        fewerMen();
        man();
        markOfHatted();
        markOfWed();
        markOfSunny();
        markOfLawyer();
        markOfIced();
        markRefused();
        sun();
        right();
        check.end();
    }

    private static void faultIs(String text, int want) {
        SnowCitizens x = Check.text(text);
        check.due("10 fault of '" + text + "'", x.fault(0), want);
        check.due("11 north by '" + text + "'", x.north(0) > 0 ? 1 : 0, want == SnowCitizens.NONE ? 1 : 0);
    }

    private static void fault() {
        int none = SnowCitizens.NONE;
        faultIs("z123456789m0100", none);
        faultIs("z000000001 m9991", none);
        faultIs("   z123456789   m0100   ", none);
        faultIs("z123456789m0100h0100w0100s0100l0100i0100", none);
        faultIs("z123456789 m0100 h0100 w0100 s0100 l0100 i0100    ", none);
        faultIs("", 0);
        faultIs("   ", 3);
        faultIs("z", 1);
        faultIs("z1234567", 8);
        faultIs("z12345678", 9);
        faultIs("z123456789", 10);
        faultIs("z123456789  ", 12);
        faultIs("z123456789m", 11);
        faultIs("z123456789m0", 12);
        faultIs("z123456789m01", 13);
        faultIs("z123456789m010", 14);
        faultIs("z123456789m0100 s", 17);
        faultIs("x123456789m0100", 0);
        faultIs(" m0100", 1);
        faultIs("Z123456789m0100", 0);
        faultIs("z123456789z123456789m0100", 10);
    }

    private static void faultsOfFigures() {
        faultIs("z 12345678 9m0100", 1);
        faultIs("z1234 56789m0100", 5);
        faultIs("z12345678 9m0100", 9);
        faultIs("z123456780m0100", 9);
        faultIs("z1234567/9m0100", 8);
        faultIs("z1234567:9m0100", 8);
        faultIs("z12345678:m0100", 9);
        faultIs("z123456789m 0100", 11);
        faultIs("z123456789m0 100", 12);
        faultIs("z123456789m01 00", 13);
        faultIs("z123456789m010 0", 14);
        faultIs("z123456789m0000", 12);
        faultIs("z123456789m0a00", 12);
        faultIs("z123456789ma000", 11);
        faultIs("z123456789m01a0", 13);
        faultIs("z123456789m0102", 14);
        faultIs("z123456789m010/", 14);
        faultIs("z123456789m01000", 15);
        faultIs("z1234567899m0100", 10);
        faultIs("z123456789x0100", 10);
        faultIs("z123456789M0100", 10);
        faultIs("z123456789m0100 z", 16);
        faultIs("z123456789m0100m0100m0100m0100m0100m0100m0100", 40);
        faultIs("z123456789m0100m0100m0100m0100m0100m0100 x", 41);
    }

    private static void faultsRefused() {
        SnowCitizens x = Check.text("z123456789m0100");
        x.put(0, 10, -128);
        check.due("10 a byte below 0", x.fault(0), 10);
        x.put(0, 10, 109 + 256);
        check.due("10 a byte that was cut", x.fault(0), SnowCitizens.NONE);
        check.refused("10 no text", x, -1, () -> x.fault(4));
        check.refused("10 no text ahead", x, -1, () -> x.fault(-1));
        check.found("10 missing", x, 1, () -> x.fault(1));
    }

    private static void north() {
        SnowCitizens x = Check.text("z123456789m0100 i2211");
        Check.write(x, 1, "z123456789");
        check.due("11 two MEN", x.north(0), 2);
        check.refused("11 no text", x, -1, () -> x.north(4));
        check.refused("11 no text ahead", x, -1, () -> x.north(-1));
        check.found("11 missing", x, 1, () -> x.north(2));
        check.refused("11 a fault", x, -4, () -> x.north(1));
        check.due("11 the SUN stays", x.sun(0), 1);
        check.due("11 six MEN", Check.text("z123456789m0100m0100m0100m0100m0100m0100").north(0), 6);
        check.due("11 one MAN", Check.text("z123456789m0100").north(0), 1);
    }

    private static void northAnew() {
        SnowCitizens x = Check.north("z111111115 m2000 m3000");
        x.day();
        x.shade(0, 4);
        x.right(7);
        x.keep(0);
        x.keep(1);
        x.keep(2);
        Check.write(x, 2, "z222222223 s0451");
        check.due("11 anew", x.north(2), 1);
        check.due("11 DAY 0", x.count(1), 0);
        check.due("11 no DEEDS", x.count(3), 0);
        check.due("11 the RIGHT of the text", x.count(2), 3);
        check.due("11 no kept NORTHS", x.count(8), 0);
        for (int k = 0; k < 3; k++) {
            int place = k;
            check.found("11 what was kept went, " + k, x, 1, () -> x.on(place));
        }
        check.due("11 the BULK of the text", x.bulk(0, 0), 4);
        check.due("11 the SUN of the text", x.sun(0), 2);
        check.due("11 anew by the first", x.north(0), 2);
        check.due("11 the SHADE of the text", x.shade(0, 1), 0);
    }

    /** What was told of MEN that are no more there must not come up again. */
    private static void fewerMen() {
        SnowCitizens x = Check.north("z100000005 h5001 h0901 h0601 h5001 h5001 h5001");
        x.game(0);
        x.bribe(1, 1, 0);
        x.census(0);
        x.widow();
        Check.write(x, 0, "z900000005 m0900");
        check.due("11 one MAN behind six", x.north(0), 1);
        check.due("11 MEN", x.count(0), 1);
        check.due("11 all BULKS", x.count(4), 9);
        check.due("11 HATTED ones", x.count(5), 0);
        check.due("11 not GONE", x.now(), 0);
        check.due("11 not GONE (bits)", x.asked(), 1);
        check.due("11 votes of 1", x.votes(0), 0);
        check.due("11 votes of 0", x.asked(), 1);
        check.due("11 not CARRIED", x.carried(1), SnowCitizens.NONE);
        check.due("11 who is GONE first", x.widow(), 0);
        check.due("11 the heir", x.heir(0, 1), SnowCitizens.NONE);
        check.due("11 the guard", x.guard(1, 1, 1), 1);
        check.row("11 the guard's SHADES", x, 1, 1);
        check.due("11 the bribe", x.bribe(0, 0, 1), 0);
        check.row("11 the bribe's SHADES", x, 1, 0);
        check.due("11 the census", x.census(1), 1);
        check.row("11 the census's order", x, 1, 0);
        check.due("11 the RIGHTS", x.rights(1), 1022);
        check.due("11 the game", x.game(1), 0);
        check.due("11 a DAY", x.day(), 0);
    }

    private static void manTells(SnowCitizens x, int i, int... want) {
        for (int what = 0; what < want.length; what++) {
            check.due("12 man " + i + " " + what, x.man(i, what), 1);
            check.due("12 man " + i + " " + what + " tells", x.asked(), want[what]);
        }
    }

    private static void man() {
        SnowCitizens x = Check.north("z111111115 h0531 w2040 s0500 l0120 i0491 m9901");
        manTells(x, 0, 1, 5, 3, 1, 1, 1);
        manTells(x, 1, 2, 20, 4, 0, 1, 1);
        manTells(x, 2, 3, 5, 0, 0, 1, 1);
        manTells(x, 3, 4, 1, 2, 0, 1, 0);
        manTells(x, 4, 5, 4, 9, 1, 0, SnowCitizens.NONE);
        manTells(x, 5, 0, 99, 0, 1, 1, 1);
        SnowCitizens y = Check.north("z111111115 w0510 w0500 m0401 w0500 w0500 s0500");
        manTells(y, 0, 2, 5, 1, 0, 1, 0);
        manTells(y, 1, 2, 5, 0, 0, 1, 0);
        manTells(y, 2, 0, 4, 0, 1, 0, SnowCitizens.NONE);
        manTells(y, 3, 2, 5, 0, 0, 1, 0);
        manTells(y, 4, 2, 5, 0, 0, 1, 0);
        check.refused("12 no MAN", y, -1, () -> y.man(6, 0));
        check.refused("12 no MAN ahead", y, -1, () -> y.man(-1, 0));
        check.refused("12 not told", y, -1, () -> y.man(0, 6));
        check.refused("12 not told ahead", y, -1, () -> y.man(0, -1));
        SnowCitizens none = new SnowCitizens();
        check.refused("12 no MEN", none, -1, () -> none.man(0, 0));
        SnowCitizens gone = Check.north("z999999991 l0501 w0500");
        gone.day();
        manTells(gone, 0, 4, 0, 0, 1, 0, SnowCitizens.NONE);
        manTells(gone, 1, 2, 1, 0, 0, 1, 0);
    }

    private static void markOfHatted() {
        // The SUN is 5, then 0.
        SnowCitizens x = Check.north("z505050505 h2010 l0300 i2000 h2050 m1000");
        check.due("13 a HATTED one", x.mark(0, 1), 3);
        check.due("13 no more than it has", x.mark(1, 1), 3);
        check.due("13 an ICED one on an even DAY", x.mark(2, 1), 0);
        check.due("13 shaded: 0 at least", x.mark(3, 1), 0);
        SnowCitizens y = Check.north("z050505055 h2010 i2000");
        check.due("13 no SUN", y.mark(0, 1), 0);
        y.day();
        check.due("13 on the DAY to come", y.mark(0, 1), 3);
        check.due("13 an ICED one on an odd DAY", y.mark(1, 1), 4);
        SnowCitizens gone = Check.north("z999999991 h0400");
        gone.day();
        check.due("13 GONE", gone.mark(0, 1), 0);
    }

    private static void markOfWed() {
        SnowCitizens x = Check.north("z111111115 w0500 w0500 w0500 m0400 w0500 w0400");
        check.due("13 the westmost one: itself", x.mark(0, 2), 0);
        check.due("13 the next one to the west", x.mark(1, 2), 0);
        check.due("13 where that is WED", x.mark(2, 2), 1);
        check.due("13 where that has not the RIGHT", x.mark(4, 2), 4);
        check.due("13 without the RIGHT", x.mark(5, 2), SnowCitizens.NONE);
    }

    private static void markOfSunny() {
        // Without a SUN, or shaded from it, a SUNNY one MELTS by 1.
        SnowCitizens x = Check.north("z000000001 s0501 s6000 s6100 s0100");
        check.due("13 a SUNNY one", x.mark(0, 3), 5);
        check.due("13 in 60", x.mark(1, 3), 60);
        check.due("13 not in 60", x.mark(2, 3), SnowCitizens.NONE);
        x.day();
        check.due("13 it is GONE", x.mark(3, 3), 0);
    }

    private static void markOfLawyer() {
        // By a SUN of 2 a LAWYER MELTS by 1 a DAY.
        SnowCitizens x = Check.north("z222222224 l0600 l0300 l9900 l0200");
        check.due("13 a LAWYER: with 3, 2, 1", x.mark(0, 4), 3);
        check.due("13 this DAY first", x.mark(1, 4), 3);
        check.due("13 with 99 .. 40", x.mark(2, 4), 0);
        x.day();
        x.day();
        check.due("13 GONE", x.mark(3, 4), 0);
        SnowCitizens y = Check.north("z000000009 l0800");
        check.due("13 on all 60", y.mark(0, 4), 60);
        SnowCitizens z = Check.north("z222222223 l6200 l6100");
        check.due("13 with 2 after 60 DAYS", z.mark(0, 4), 0);
        check.due("13 with 2 on the last of 60", z.mark(1, 4), 1);
    }

    private static void markOfIced() {
        // On DAYS 1, 3, 5, 7 the SUN is 2, 1, 5, 3.
        SnowCitizens x = Check.north("z929195935 i2000 i2020 i2090 i0100");
        check.due("13 an ICED one", x.mark(0, 5), 3);
        check.due("13 shaded", x.mark(1, 5), 1);
        check.due("13 shaded well", x.mark(2, 5), 0);
        check.due("13 as if it had BULK enough", x.mark(3, 5), 3);
        x.day();
        check.due("13 from an odd DAY on", x.mark(0, 5), 3);
        x.day();
        check.due("13 from an even DAY on", x.mark(0, 5), 3);
        check.due("13 GONE", x.mark(3, 5), 3);
    }

    private static void markRefused() {
        // By rows: of the MAN, as bits of KINDS, what it is.
        int[] is = {0, 1 << 1, 1 << 2, 1 << 3, 1 << 1 | 1 << 4, 1 << 1 | 1 << 5};
        for (int i = 0; i < 6; i++) {
            SnowCitizens y = Check.north("z111111115 m2000 h2000 w2000 s2000 l2000 i2000");
            for (int kind = 1; kind <= 5; kind++) {
                int of = i;
                int as = kind;
                if ((is[i] >> kind & 1) == 0) {
                    check.found("13 " + i + " is not " + kind, y, 3, () -> y.mark(of, as));
                } else {
                    check.due("13 " + i + " is " + kind, y.mark(i, kind) == SnowCitizens.FINDING ? 1 : 0, 0);
                }
            }
        }
        SnowCitizens x = Check.north("z111111115 m2000 h2000 w2000 s2000 l2000 i2000");
        check.refused("13 KIND 0", x, -1, () -> x.mark(0, 0));
        check.refused("13 KIND 6", x, -1, () -> x.mark(0, 6));
        check.refused("13 KIND -1", x, -1, () -> x.mark(0, -1));
        check.refused("13 no MAN", x, -1, () -> x.mark(6, 1));
        check.refused("13 no MAN ahead", x, -1, () -> x.mark(-1, 1));
    }

    private static void sun() {
        SnowCitizens x = Check.north("z123456785 m2000");
        check.due("14 DAY 0", x.sun(0), 1);
        check.due("14 DAY 7", x.sun(7), 8);
        check.due("14 DAY 8", x.sun(8), 1);
        check.due("14 DAY 99", x.sun(99), 4);
        x.day();
        check.due("14 a DAY as such, not from now", x.sun(0), 1);
        check.refused("14 DAY 100", x, -1, () -> x.sun(100));
        check.refused("14 DAY -1", x, -1, () -> x.sun(-1));
        SnowCitizens none = new SnowCitizens();
        check.refused("14 no MEN", none, -4, () -> none.sun(0));
        check.refused("14 BAD ahead of STATE", none, -1, () -> none.sun(100));
    }

    private static void right() {
        SnowCitizens x = Check.north("z000000005 m0400");
        check.due("15 it was", x.right(4), 5);
        check.due("15 it is", x.count(2), 4);
        check.due("15 the MAN has it", x.votes(0) + x.asked(), 1);
        check.due("15 the greatest", x.right(9), 4);
        check.due("15 the MAN has it not", x.votes(0) + x.asked(), 0);
        check.due("15 the least", x.right(1), 9);
        check.due("15 no DEED", x.count(3), 0);
        check.refused("15 no RIGHT 0", x, -1, () -> x.right(0));
        check.refused("15 no RIGHT 10", x, -1, () -> x.right(10));
        SnowCitizens none = new SnowCitizens();
        check.refused("15 no MEN", none, -4, () -> none.right(5));
        check.refused("15 BAD ahead of STATE", none, -1, () -> none.right(0));
    }
}
