/** Promises 40 to 49: clouds, lots, and what is told. */
public final class ToldTest {
    private static final Check check = new Check("ToldTest");
    private static final int NONE = SnowCitizens.NONE;

    public static void main(String[] args) {
        odds();
        mid();
        chancesRefused();
        lots();
        lotsRefused();
        asked();
        upperLower();
        count();
        findings();
        digest();
        check.end();
    }

    private static void chance(String label, SnowCitizens x, int answer, long upper, long lower) {
        check.due(label, answer, 1);
        check.due(label + " (upper)", x.upper(), upper);
        check.due(label + " (lower)", x.lower(), lower);
    }

    private static void odds() {
        // A MAN of 2 under a SUN of 1 is GONE by two DAYS of SUN.
        SnowCitizens x = Check.north("z111111115 m0200 m9900 m0100");
        chance("40 today", x, x.odds(0, 0, 6), 1, 1);
        chance("40 one DAY", x, x.odds(0, 1, 6), 1, 1);
        chance("40 two DAYS", x, x.odds(0, 2, 6), 3, 4);
        chance("40 two DAYS, p 4", x, x.odds(0, 2, 4), 5, 9);
        chance("40 no clouds", x, x.odds(0, 2, 0), 0, 1);
        chance("40 clouds alone", x, x.odds(2, 8, 12), 1, 1);
        chance("40 eight DAYS", x, x.odds(0, 8, 1), 89, 429981696);
        chance("40 for sure", x, x.odds(1, 8, 5), 1, 1);
        x.day();
        chance("40 GONE", x, x.odds(2, 3, 12), 0, 1);
        // An ICED one MELTS on odd DAYS alone, so a cloud on DAY 0 spares nothing.
        SnowCitizens iced = Check.north("z990000005 i0800");
        chance("40 ICED, DAY 0", iced, iced.odds(0, 1, 3), 1, 1);
        chance("40 ICED, DAY 1", iced, iced.odds(0, 2, 3), 1, 4);
    }

    private static void mid() {
        SnowCitizens x = Check.north("z111111115 m0200 m9900");
        chance("41 today", x, x.mid(0, 0, 6), 2, 1);
        chance("41 one DAY", x, x.mid(0, 1, 6), 3, 2);
        chance("41 two DAYS", x, x.mid(0, 2, 6), 1, 1);
        chance("41 0 at least", x, x.mid(0, 3, 6), 5, 8);
        chance("41 p 1", x, x.mid(0, 1, 1), 13, 12);
        chance("41 no clouds", x, x.mid(0, 3, 0), 0, 1);
        chance("41 clouds alone", x, x.mid(1, 8, 12), 99, 1);
        chance("41 eight DAYS", x, x.mid(1, 8, 1), 99 * 3 - 22, 3);
        x.day();
        chance("41 from now", x, x.mid(1, 1, 6), 195, 2);
    }

    private static void chancesRefused() {
        SnowCitizens x = Check.north("z111111115 m0200");
        x.odds(0, 2, 6);
        check.refused("40 no MAN", x, -1, () -> x.odds(1, 0, 0));
        check.refused("40 no MAN ahead", x, -1, () -> x.odds(-1, 0, 0));
        check.refused("40 9 DAYS", x, -1, () -> x.odds(0, 9, 0));
        check.refused("40 -1 DAYS", x, -1, () -> x.odds(0, -1, 0));
        check.refused("40 13 of 12", x, -1, () -> x.odds(0, 0, 13));
        check.refused("40 -1 of 12", x, -1, () -> x.odds(0, 0, -1));
        check.refused("41 no MAN", x, -1, () -> x.mid(1, 0, 0));
        check.refused("41 no MAN ahead", x, -1, () -> x.mid(-1, 0, 0));
        check.refused("41 9 DAYS", x, -1, () -> x.mid(0, 9, 0));
        check.refused("41 -1 DAYS", x, -1, () -> x.mid(0, -1, 0));
        check.refused("41 13 of 12", x, -1, () -> x.mid(0, 0, 13));
        check.refused("41 -1 of 12", x, -1, () -> x.mid(0, 0, -1));
    }

    private static void lots() {
        // From seed 1: 48271, 182605794, 1291394886, 1914720637: modulo 12 that is 7, 6, 6, 1.
        SnowCitizens x = Check.north("z111111115 m0200 m9900");
        check.due("42 below 7: SUN, clouds, clouds, clouds", x.lots(4, 7, 1), 2);
        check.due("42 one DAY of SUN", x.bulk(1, 0), 98);
        check.due("42 DAYS", x.count(1), 4);
        check.due("42 DEEDS", x.count(3), 4);
        x.undo(0);
        check.due("42 below 6: SUN but for the last", x.lots(4, 6, 1), 1);
        check.due("42 three DAYS of SUN", x.bulk(1, 0), 96);
        check.due("42 always SUN", x.lots(20, 0, 5), 1);
        check.due("42 20 DAYS of SUN", x.bulk(1, 0), 76);
        check.due("42 always clouds", x.lots(20, 12, 2147483646), 1);
        check.due("42 20 DAYS of clouds", x.bulk(1, 0), 76);
        check.due("42 DAYS then", x.count(1), 44);
        // 2147483646 is 1 less than the modulus: from it comes 2147483647 - 48271, which modulo 12 is 0.
        x.undo(0);
        x.lots(1, 1, 2147483646);
        check.due("42 from the greatest seed", x.bulk(1, 0), 99);
        x.lots(1, 7, 1);
        check.due("42 7 is not below 7", x.bulk(1, 0), 98);
        x.lots(1, 8, 1);
        check.due("42 7 is below 8", x.bulk(1, 0), 98);
    }

    private static void lotsRefused() {
        SnowCitizens x = Check.north("z111111115 m0200 m9900");
        check.refused("42 no DAYS", x, -1, () -> x.lots(0, 1, 1));
        check.refused("42 21 DAYS", x, -1, () -> x.lots(21, 1, 1));
        check.refused("42 -1 of 12", x, -1, () -> x.lots(1, -1, 1));
        check.refused("42 13 of 12", x, -1, () -> x.lots(1, 13, 1));
        check.refused("42 seed 0", x, -1, () -> x.lots(1, 1, 0));
        check.refused("42 seed -1", x, -1, () -> x.lots(1, 1, -1));
        check.refused("42 seed 2147483647", x, -1, () -> x.lots(1, 1, 2147483647));
        x.lots(20, 6, 1);
        x.lots(20, 6, 1);
        x.day();
        check.refused("42 61 DEEDS", x, -2, () -> x.lots(20, 6, 1));
        check.due("42 60 DEEDS", x.lots(19, 6, 1), x.votes(0) + x.asked());
        check.refused("42 full", x, -2, () -> x.lots(1, 6, 1));
        check.refused("42 BAD ahead of FULL", x, -1, () -> x.lots(0, 6, 1));
        SnowCitizens none = new SnowCitizens();
        check.refused("42 no MEN", none, -4, () -> none.lots(1, 1, 1));
        check.refused("42 BAD ahead of STATE", none, -1, () -> none.lots(1, 1, 0));
    }

    private static void asked() {
        SnowCitizens x = Check.text("z500000005 m0501 w2000");
        check.due("43 before", x.asked(), 0);
        Check.lay(x, 0, 3, 4);
        x.lay(0, 1, 9);
        check.due("43 lay", x.asked(), 4);
        x.at(0, 0);
        check.due("43 at", x.asked(), 3);
        x.mean(0);
        check.due("43 mean", x.asked(), 6);
        x.north(0);
        check.due("43 a NORTH changes it not", x.asked(), 6);
        x.man(1, 1);
        check.due("43 man", x.asked(), 20);
        x.now();
        check.due("43 now", x.asked(), 3);
        x.votes(0);
        check.due("43 votes", x.asked(), 0);
        x.widow();
        check.due("43 widow", x.asked(), 1);
        Check.lay(x, 1, 0, 7);
        x.fits(0, 1);
        check.due("43 fits", x.asked(), 7);
        x.day();
        x.man(0, 5);
        check.due("43 NONE as told by man", x.asked(), NONE);
        x.now();
        x.undo(0);
        x.day();
        x.right(3);
        x.bulk(1, 3);
        x.mark(1, 2);
        x.copy(0, 0, 1, 0, 1);
        x.put(0, 0, 1);
        x.odds(0, 1, 1);
        x.guard(2, 1, 3);
        x.census(3);
        x.kinds(0, 1);
        x.digest();
        check.due("43 other calls change it not", x.asked(), 2);
        Check.lay(x, 1, 2, 98, 0, 99);
        x.fits(1, 1);
        check.due("43 NONE as told by fits", x.asked(), NONE);
    }

    private static void upperLower() {
        SnowCitizens x = Check.north("z111111115 m0200");
        check.due("44 before", x.upper(), 0);
        check.due("45 before", x.lower(), 1);
        x.odds(0, 2, 6);
        check.due("44 told", x.upper(), 3);
        check.due("45 told", x.lower(), 4);
        x.odds(0, 9, 6);
        Check.write(x, 0, "z111111115 m0900");
        x.north(0);
        check.due("44 the last that was told", x.upper(), 3);
        check.due("45 the last that was told", x.lower(), 4);
        x.mid(0, 1, 6);
        check.due("44 told by mid", x.upper(), 17);
        check.due("45 told by mid", x.lower(), 2);
    }

    private static void count() {
        SnowCitizens x = Check.north("z910000007 m0300 h2000 w4000 s1000 l0500 i3000");
        x.text(3, 2);
        x.row(5, 0);
        x.row(1, 1);
        x.day();
        x.shade(1, 2);
        x.keep(2);
        int[] want = {6, 1, 7, 2, 0 + 12 + 36 + 0 + 0 + 30, 3, 2, 2, 1};
        for (int what = 0; what <= 8; what++) {
            check.due("46 " + what, x.count(what), want[what]);
        }
        x.tear(5);
        check.due("46 a ROW less", x.count(6), 1);
        check.refused("46 -1", x, -1, () -> x.count(-1));
        check.refused("46 9", x, -1, () -> x.count(9));
    }

    private static void findings() {
        SnowCitizens x = Check.north("z111111115 m0200");
        check.due("47 before", x.finding(), 0);
        for (int f = 1; f <= 5; f++) {
            check.due("48 before " + f, x.findings(f), 0);
        }
        x.row(0, 0);
        x.at(1, 0);
        check.due("47 NOTHING", x.finding(), 1);
        x.at(0, 0);
        x.lay(0, 0, 1);
        check.due("47 BEYOND", x.finding(), 2);
        x.mark(0, 1);
        check.due("47 UNLIKE", x.finding(), 3);
        x.mean(0);
        check.due("47 NOUGHT", x.finding(), 4);
        x.row(0, -1);
        check.due("47 SIZE", x.finding(), 5);
        x.on(0);
        check.due("47 NOTHING is kept", x.finding(), 1);
        x.bulk(9, 0);
        x.row(0, 3);
        check.due("47 the latest stays", x.finding(), 1);
        int[] want = {2, 2, 1, 1, 1};
        for (int f = 1; f <= 5; f++) {
            check.due("48 how often " + f, x.findings(f), want[f - 1]);
        }
        check.refused("48 0", x, -1, () -> x.findings(0));
        check.refused("48 6", x, -1, () -> x.findings(6));
        check.refused("48 -1", x, -1, () -> x.findings(-1));
    }

    private static long onto(long h, long... all) {
        for (long v : all) {
            h = 31 * h + v;
        }
        return h;
    }

    private static void digest() {
        SnowCitizens x = new SnowCitizens();
        long h = onto(17, 0, 0, 0, 0, 0, 0, 0, 0, 0);
        check.due("49 new", x.digest(), onto(h, -1, -1, -1, -1, -1, -1, -1, -1, -1, -1, -1, -1, -1));
        Check.write(x, 1, "z111111115 l9901 w0431");
        x.north(1);
        x.day();
        x.keep(1);
        x.day();
        x.row(0, 0);
        Check.lay(x, 2, -7, 8);
        Check.write(x, 1, "z");
        x.text(3, 2);
        x.put(3, 1, 200);
        x.at(2, 1);
        h = onto(17, 2, 2, 5, 2, 103, 1, 2, 2, 1);
        h = onto(h, 4, 99, 0, 1, 1, 1);
        h = onto(h, 2, 4, 3, 1, 0, NONE);
        h = onto(h, -1, 1, -1);
        h = onto(h, 0, -1, 2, -7, 8, -1, -1, -1);
        h = onto(h, -1, 1, 122, -1, 2, 32, -56);
        check.due("49 of all", x.digest(), h);
        check.due("49 asked() stays", x.asked(), 8);
    }
}
