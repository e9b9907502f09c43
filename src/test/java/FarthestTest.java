/** What is told on DAY 60, the last that 60 DEEDS come to: up to 60 DAYS from there, so up to DAY 119's melting. */
public final class FarthestTest {
    private static final Check check = new Check("FarthestTest");
    private static final int NONE = -9;

    public static void main(String[] args) {
        foretold();
        carried();
        leastShade();
        census();
        seen();
        marks();
        turnsAndClouds();
        undone();
        check.end();
    }

    /** A NORTH by a text on DAY 60, nobody having MELTED. */
    private static SnowCitizens onDay60(String text) {
        SnowCitizens x = Check.north(text);
        for (int k = 0; k < 3; k++) {
            x.lots(20, 12, 1 + k);
        }
        return x;
    }

    private static void foretold() {
        SnowCitizens x = onDay60("z000000001 s6000 s6100 m0100");
        check.due("20 the DAY", x.now(), 60);
        check.due("23 in 59", x.bulk(0, 59), 1);
        check.due("23 in 60", x.bulk(0, 60), 0);
        check.due("23 of the next one", x.bulk(1, 60), 1);
        check.due("24 in 60", x.gone(0), 60);
        check.due("24 not in 60", x.gone(1), NONE);
        check.told("25 in 59", x, x.votes(59), 2, 1);
        check.told("25 in 60", x, x.votes(60), 1, 1);
        check.told("28 in 60", x, x.widow(), 0, 60);
        check.due("29 in 59", x.heir(0, 59), 0);
        check.due("29 in 60", x.heir(0, 60), 1);
        SnowCitizens later = onDay60("z000000001 s6100 m0100");
        check.due("28 in 61", later.widow(), NONE);
        // The SUN shines on DAYS 63, 71, .. 119 alone.
        SnowCitizens last = onDay60("z000000019 m0800 m0900");
        check.due("24 by the last DAY's melting", last.gone(0), 60);
        check.due("24 one more", last.gone(1), NONE);
        check.due("23 ahead of the last DAY's melting", last.bulk(0, 59), 1);
        check.due("29 by the last DAY's melting", last.heir(0, 60), 1);
    }

    private static void carried() {
        SnowCitizens till = onDay60("z000000001 s6000");
        check.due("26 not CARRIED in 60", till.carried(0), 60);
        check.due("27 on 60 of 61", till.days(60), 60);
        check.due("26 not CARRIED in 61", onDay60("z000000001 s6100").carried(0), NONE);
        SnowCitizens from = onDay60("z000000011 m0800 m0901");
        check.due("26 CARRIED in 60", from.carried(1), 60);
        check.due("27 not on 59", from.days(59), 0);
        check.due("27 on the last", from.days(60), 1);
        check.due("26 CARRIED in 61", onDay60("z000000011 m0900 m1001").carried(1), NONE);
    }

    private static void leastShade() {
        SnowCitizens x = onDay60("z111111111 m6001 m6101 m6010");
        check.due("30 in 59", x.guard(3, 59, 0), 0);
        check.due("30 in 60", x.guard(3, 60, 0), 1);
        check.row("30 in 60", x, 0, 1, 0, 1);
        check.due("32 in 59", x.carry(0, 59), 0);
        check.due("32 in 60", x.carry(0, 60), 1);
        check.due("32 of the next one", x.carry(1, 60), 0);
        check.due("31 in 59", x.bribe(1, 59, 0), 0);
        check.due("31 in 60", x.bribe(1, 60, 0), 1);
        check.row("31 in 60", x, 0, 0, 0, 0);
        SnowCitizens one = onDay60("z111111111 m6011");
        check.due("31 not to be had in 59", one.bribe(0, 59, 0), NONE);
        check.due("31 to be had in 60", one.bribe(0, 60, 0), 1);
        check.row("31 to be had in 60", one, 0, 0);
    }

    private static void census() {
        // The SUN shines on DAYS 61 and 63: who is of 1 comes ahead of DAY 62, who is of 2 ahead of DAY 64.
        SnowCitizens x = onDay60("z000001011 m0900 m0200 m0200 m0100 m0100 m0900");
        check.due("33 all", x.census(0), 6);
        check.row("33 the order", x, 0, 3, 4, 1, 2, 0, 5);
        check.due("34 by that", x.counted(0), 6);
        Check.lay(x, 1, 0, 1, 2, 3, 4, 5);
        check.due("34 by another", x.counted(1), 4);
    }

    private static void seen() {
        SnowCitizens x = onDay60("z111111111 m6100");
        Check.lay(x, 0, 60, 1);
        check.told("35 one BULK", x, x.fits(0, 0), 1, 61);
        check.due("36 a MAN alone", x.kinds(0, 0), 1);
        Check.lay(x, 0, 60, 0);
        check.told("35 60 and less", x, x.fits(0, 0), 61, 0);
        check.due("36 a SUNNY one", x.kinds(0, 0), 1 << 3);
        SnowCitizens last = onDay60("z000000011 m0800");
        Check.lay(last, 0, 59, 1, 60, 0);
        check.told("35 by the last DAY's melting", last, last.fits(0, 0), 1, 8);
        check.due("36 by the last DAY's melting", last.kinds(0, 0), 1);
    }

    private static void marks() {
        SnowCitizens x = onDay60("z222222229 l6000 l6100 i0900 s6000 l0800");
        check.due("13 a LAWYER below the RIGHT on DAYS 112 .. 119", x.mark(0, 4), 8);
        check.due("13 on DAYS 113 .. 119", x.mark(1, 4), 7);
        check.due("13 a LAWYER below the RIGHT till it is GONE", x.mark(4, 4), 8);
        check.due("13 an ICED one on DAYS 61, 63, 65, 67", x.mark(2, 5), 4);
        check.due("13 an ICED one on DAY 60", x.mark(2, 1), 0);
        check.due("13 a LAWYER on DAY 60", x.mark(0, 1), 1);
        check.due("13 a SUNNY one by 3 a DAY", x.mark(3, 3), 20);
        SnowCitizens sunny = onDay60("z000000001 s6000 s6100");
        check.due("13 a SUNNY one in 60", sunny.mark(0, 3), 60);
        check.due("13 a SUNNY one in 61", sunny.mark(1, 3), NONE);
        // The SUN shines on DAYS 67, 75, .. alone, 8 DAYS from now on with the first of these.
        SnowCitizens iced = onDay60("z000200005 i0900");
        check.due("13 an ICED one on the last of 8 DAYS", iced.mark(0, 5), 1);
    }

    private static void turnsAndClouds() {
        // DAYS 60, 61 and 62 are those of the 5th, 6th, 7th figure.
        check.due("38 by DAY 62", onDay60("z000000105 m0501").game(0), 0);
        check.due("38 not by DAY 63", onDay60("z000000015 m0501").game(0), 1);
        check.due("38 by DAY 60", onDay60("z000010005 m0501").game(0), 0);
        check.due("38 not by DAY 59", onDay60("z000100005 m0501").game(0), 1);
        check.due("39 SHADE against DAY 62", onDay60("z000000205 m0611 m9901").first(1), 0);
        SnowCitizens x = onDay60("z000100001 m0100 i0100");
        x.odds(0, 7, 3);
        check.due("40 ahead of DAY 67", x.upper() * 100 + x.lower(), 101);
        x.odds(0, 8, 3);
        check.due("40 behind DAY 67", x.upper() * 100 + x.lower(), 104);
        x.mid(0, 8, 9);
        check.due("41 behind DAY 67", x.upper() * 100 + x.lower(), 304);
        x.odds(1, 8, 0);
        check.due("40 an ICED one of SUN 1", x.upper() * 100 + x.lower(), 101);
        check.due("14 the SUN of DAY 99", x.sun(99), 1);
    }

    private static void undone() {
        SnowCitizens x = onDay60("z111111111 m9900");
        check.due("21 60 DEEDS", x.keep(2), 60);
        check.due("19 none of 60", x.undo(60), 0);
        check.due("19 the last", x.undo(59), 1);
        check.due("20 DAY 59", x.now(), 59);
        check.due("16 DAY 60 without clouds", x.day() * 100 + x.bulk(0, 0), 198);
        check.due("19 all", x.undo(0), 60);
        check.due("20 DAY 0", x.now() * 100 + x.bulk(0, 0), 99);
        check.due("22 60 DEEDS again", x.on(2), 60);
        check.due("22 DAY 60", x.now() * 100 + x.bulk(0, 0), 6099);
        check.due("19 30 of them", x.undo(30), 30);
        check.due("20 DAY 30", x.now() * 100 + x.bulk(0, 0), 3099);
    }
}
