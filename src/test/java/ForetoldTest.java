/** Promises 23 to 29: what is foretold. */
public final class ForetoldTest {
    private static final Check check = new Check("ForetoldTest");
    private static final int NONE = SnowCitizens.NONE;

    public static void main(String[] args) {
        bulk();
        gone();
        votes();
        carried();
        days();
        widow();
        heir();
        check.end();
    }

    private static void bulk() {
        // On 8 DAYS a MAN without SHADE MELTS by 12, with SHADE 2 by 4, a WED one by 0 1 1 2 0 0 0 0.
        SnowCitizens x = Check.north("z123510005 m2000 m2020 w2000 i2000 s2000");
        check.due("23 now", x.bulk(0, 0), 20);
        check.due("23 ahead of that DAY's melting", x.bulk(0, 3), 14);
        check.due("23 8 DAYS from now", x.bulk(0, 8), 8);
        check.due("23 0 at least", x.bulk(0, 12), 0);
        check.due("23 60 DAYS from now", x.bulk(0, 60), 0);
        check.due("23 by SHADE", x.bulk(1, 8), 16);
        check.due("23 a WED one", x.bulk(2, 8), 16);
        check.due("23 an ICED one", x.bulk(3, 8), 15);
        check.due("23 a SUNNY one", x.bulk(4, 4), 5);
        x.day();
        check.due("23 from now", x.bulk(0, 2), 14);
        check.due("23 an ICED one by the DAY's number", x.bulk(3, 1), 19);
        check.refused("23 61 DAYS", x, -1, () -> x.bulk(0, 61));
        check.refused("23 -1 DAYS", x, -1, () -> x.bulk(0, -1));
        check.refused("23 no MAN", x, -1, () -> x.bulk(5, 0));
        check.refused("23 no MAN ahead", x, -1, () -> x.bulk(-1, 0));
        SnowCitizens none = new SnowCitizens();
        check.refused("23 no MEN", none, -1, () -> none.bulk(0, 0));
    }

    private static void gone() {
        SnowCitizens x = Check.north("z111111115 m0100 m6000 m6100 h9900 m0500");
        check.due("24 in one DAY", x.gone(0), 1);
        check.due("24 in 60", x.gone(1), 60);
        check.due("24 not in 60", x.gone(2), NONE);
        check.due("24 a HATTED one never", x.gone(3), NONE);
        x.day();
        check.due("24 it is", x.gone(0), 0);
        check.due("24 from now", x.gone(4), 4);
        check.refused("24 no MAN", x, -1, () -> x.gone(5));
        check.refused("24 no MAN ahead", x, -1, () -> x.gone(-1));
    }

    private static void votesAre(String label, SnowCitizens x, int n, int ones, int noughts) {
        check.due("25 " + label, x.votes(n), ones);
        check.due("25 " + label + " (0)", x.asked(), noughts);
    }

    private static void votes() {
        SnowCitizens x = Check.north("z100000005 m0501 m0900 m0401");
        votesAre("by its VOTE, with the RIGHT", x, 0, 1, 1);
        votesAre("below the RIGHT", x, 1, 0, 1);
        SnowCitizens kinds = Check.north("z000000005 s0500 w0500 w0500 l0101 i0400 w0501");
        votesAre("SUNNY, WED as it, LAWYER, WED by its own", kinds, 0, 5, 0);
        SnowCitizens wed = Check.north("z000000005 w0501 m0500 w0501 m0401 w0500 w0501");
        votesAre("WED: own 1, as 0, own 0, as 0", wed, 60, 1, 4);
        SnowCitizens gone = Check.north("z900000001 l0501 w0901 m1000");
        votesAre("a LAWYER and a WED one", gone, 0, 2, 1);
        votesAre("a LAWYER that is GONE", gone, 1, 1, 1);
        check.refused("25 61 DAYS", x, -1, () -> x.votes(61));
        check.refused("25 -1 DAYS", x, -1, () -> x.votes(-1));
        SnowCitizens none = new SnowCitizens();
        check.refused("25 no MEN", none, -4, () -> none.votes(0));
        check.refused("25 BAD ahead of STATE", none, -1, () -> none.votes(61));
    }

    private static void carried() {
        // The one of 0 loses the RIGHT on DAY 3, the one of 1 on DAY 5.
        SnowCitizens x = Check.north("z111111115 m0700 m0901");
        check.due("26 CARRIED", x.carried(1), 3);
        check.due("26 as many are not more", x.carried(0), 0);
        x.day();
        x.day();
        x.day();
        check.due("26 now", x.carried(1), 0);
        check.due("26 not CARRIED without votes", x.carried(0), 2);
        SnowCitizens never = Check.north("z111111115 m9900");
        check.due("26 on none", never.carried(1), NONE);
        SnowCitizens last = Check.north("z111111115 m6400 m6501");
        check.due("26 on the 60th", last.carried(1), 60);
        SnowCitizens always = Check.north("z000000005 m5001");
        check.due("26 always", always.carried(0), NONE);
        check.refused("26 neither", x, -1, () -> x.carried(2));
        check.refused("26 neither ahead", x, -1, () -> x.carried(-1));
        SnowCitizens none = new SnowCitizens();
        check.refused("26 no MEN", none, -4, () -> none.carried(1));
        check.refused("26 BAD ahead of STATE", none, -1, () -> none.carried(2));
    }

    private static void days() {
        SnowCitizens x = Check.north("z111111115 m0700 m0901");
        check.due("27 today", x.days(0), 0);
        check.due("27 to the first", x.days(3), 1);
        check.due("27 to the last", x.days(4), 2);
        check.due("27 to the end", x.days(60), 2);
        SnowCitizens always = Check.north("z000000005 m5001");
        check.due("27 today alone", always.days(0), 1);
        check.due("27 all 61", always.days(60), 61);
        SnowCitizens again = Check.north("z100000008 m0901 m0800");
        check.due("27 DAY 0 has as many", again.days(60), 8);
        again.right(9);
        check.due("27 by another RIGHT", again.days(60), 1);
        SnowCitizens lost = Check.north("z000000005 m0501");
        check.due("27 to the 60th", lost.days(60), 61);
        lost.right(9);
        check.due("27 not to the 60th either", lost.days(60), 0);
        check.refused("27 61 DAYS", x, -1, () -> x.days(61));
        check.refused("27 -1 DAYS", x, -1, () -> x.days(-1));
        SnowCitizens none = new SnowCitizens();
        check.refused("27 no MEN", none, -4, () -> none.days(0));
        check.refused("27 BAD ahead of STATE", none, -1, () -> none.days(-1));
    }

    private static void widow() {
        SnowCitizens x = Check.north("z111111115 m0300 m0100 m0200 m0200 h2000");
        check.due("28 who is first", x.widow(), 1);
        check.due("28 in", x.asked(), 1);
        x.day();
        check.due("28 with the first, the least number", x.widow(), 2);
        check.due("28 in so many", x.asked(), 1);
        x.day();
        x.day();
        check.due("28 nobody", x.widow(), NONE);
        check.due("28 asked() stays", x.asked(), 1);
        SnowCitizens last = Check.north("z111111115 m6100 m6000");
        check.due("28 in 60", last.widow(), 1);
        check.due("28 in 60 DAYS", last.asked(), 60);
        SnowCitizens none = new SnowCitizens();
        check.refused("28 no MEN", none, -4, none::widow);
    }

    private static void heir() {
        SnowCitizens x = Check.north("z111111115 m0300 m0200 m0500 m0100 m0400 m0300");
        check.due("29 its own", x.heir(1, 1), 1);
        check.due("29 the nearest to the east", x.heir(1, 2), 2);
        check.due("29 further to the east", x.heir(3, 3), 4);
        check.due("29 past one that is GONE", x.heir(0, 3), 2);
        check.due("29 the nearest to the west", x.heir(5, 3), 4);
        check.due("29 further to the west", x.heir(5, 4), 2);
        check.due("29 east ahead of west", x.heir(3, 2), 4);
        check.due("29 all are GONE", x.heir(2, 5), NONE);
        SnowCitizens first = Check.north("z111111115 m0900 m0100 m0100");
        check.due("29 to the west, the westmost one", first.heir(2, 1), 0);
        check.refused("29 no MAN", x, -1, () -> x.heir(6, 0));
        check.refused("29 no MAN ahead", x, -1, () -> x.heir(-1, 0));
        check.refused("29 61 DAYS", x, -1, () -> x.heir(0, 61));
        check.refused("29 -1 DAYS", x, -1, () -> x.heir(0, -1));
    }
}
