/** The edges that promises 23 to 29 name, sentence by sentence. */
public final class ForetoldEdgesTest {
    private static final Check check = new Check("ForetoldEdgesTest");
    private static final int BAD = -1, STATE = -4, NONE = -9;
    private static final int MIN = Integer.MIN_VALUE, MAX = Integer.MAX_VALUE;

    public static void main(String[] args) {
        bulk();
        gone();
        votes();
        carried();
        carriedRefused();
        days();
        widow();
        widowOfNone();
        heir();
        heirOfNone();
        check.endOf(23, 29);
    }

    private static void bulk() {
        check.sentence(23, "The BULK of a MAN.");
        // On each 8 DAYS a MAN MELTS by 9, 0, 1, 0, 0, 0, 0, 2, one with SHADE 1 by 8 and 1.
        SnowCitizens x = Check.north("z901000025 m2000 m9910 s9900 m0990 w9900 i9910");
        int[] sizes = {20, 11, 11, 10, 10, 10, 10, 10, 8, 0, 0};
        for (int n = 0; n < sizes.length; n++) {
            check.due(n + " DAYS from now", x.bulk(0, n), sizes[n]);
        }
        check.due("0 at least", x.bulk(0, 60), 0);
        check.due("60 DAYS from now", x.bulk(1, 60), 99 - 7 * 9 - 8);
        check.due("a SUNNY one", x.bulk(2, 8), 99 - 12 - 8);
        check.due("a MAN that does not MELT", x.bulk(3, 60), 9);
        check.due("a WED one", x.bulk(4, 60), 99 - 7 * 5 - 4);
        check.due("an ICED one", x.bulk(5, 60), 99);
        x.day();
        x.day();
        for (int n = 0; n < 8; n++) {
            check.due(n + " DAYS from DAY 2", x.bulk(0, n), sizes[n + 2]);
        }
        for (int k = 0; k < 58; k++) {
            x.day();
        }
        // DAYS 60 .. 119 begin with 0, 0, 0, 2, 9, 0, 1, 0.
        check.due("now, of 60 DAYS", x.bulk(1, 0), 99 - 7 * 9 - 8);
        check.due("DAY 67 is ahead of the SUN of 8", x.bulk(1, 4), 99 - 8 * 9);
        check.due("60 DAYS from DAY 60", x.bulk(1, 60), 0);
        check.due("a MAN that does not MELT, still", x.bulk(3, 60), 9);
        check.sentence(23, "BAD.");
        SnowCitizens y = Check.north("z111111115 m2000");
        check.allRefused(y, BAD, () -> y.bulk(1, 0), () -> y.bulk(-1, 0), () -> y.bulk(MIN, 0), () -> y.bulk(MAX, 0),
            () -> y.bulk(0, 61), () -> y.bulk(0, -1), () -> y.bulk(0, MIN), () -> y.bulk(0, MAX));
        SnowCitizens none = new SnowCitizens();
        check.allRefused(none, BAD, () -> none.bulk(0, 0));
    }

    private static void gone() {
        check.sentence(24, "In how many DAYS (0 .. 60) a MAN is GONE.");
        SnowCitizens x = Check.north("z111111115 m0100 m0200 m5900 m6000 s9900 m6100");
        int[] in = {1, 2, 59, 60, 50, NONE};
        for (int i = 0; i < 5; i++) {
            check.due("of " + i, x.gone(i), in[i]);
        }
        check.sentence(24, "NONE: not in 60.");
        check.due("in 61", x.gone(5), NONE);
        check.due("never", Check.north("z111111115 m0110").gone(0), NONE);
        x.day();
        check.due("in 60 from the next DAY on", x.gone(5), 60);
        check.due("it is", x.gone(0), 0);
        x.day();
        check.due("it is, still", x.gone(0), 0);
        check.due("it is, too", x.gone(1), 0);
        x.snow(5, 2);
        check.due("behind SNOW", x.gone(5), NONE);
        check.sentence(24, "BAD.");
        SnowCitizens y = Check.north("z111111115 m0100");
        check.allRefused(y, BAD, () -> y.gone(1), () -> y.gone(-1), () -> y.gone(6), () -> y.gone(MIN),
            () -> y.gone(MAX));
        SnowCitizens none = new SnowCitizens();
        check.allRefused(none, BAD, () -> none.gone(0));
    }

    private static void votes() {
        check.sentence(25, "How many vote 1; how many 0 by asked().");
        SnowCitizens x = Check.north("z111111115 m0501 m0600 w0901 s0900 l0500 w0600");
        // The RIGHT goes from 0, then from 1 and 5; the LAYWER's stays to its last BULK, which never MELTS.
        check.told("now", x, x.votes(0), 2, 4);
        check.told("in 1 DAY", x, x.votes(1), 1, 4);
        check.told("in 2: the WED one votes by its own, 5 as the LAWYER", x, x.votes(2), 2, 2);
        check.told("in 60", x, x.votes(60), 1, 2);
        SnowCitizens none = Check.north("z900000009 m0801 m0900");
        check.told("one", none, none.votes(0), 0, 1);
        check.told("nobody", none, none.votes(1), 0, 0);
        check.told("nobody in 60", none, none.votes(60), 0, 0);
        SnowCitizens all = Check.north("z000000001 s0100 s0100 s0100 s0100 s0100 w0100");
        check.told("all vote 1", all, all.votes(0), 6, 0);
        check.sentence(25, "BAD;");
        check.allRefused(x, BAD, () -> x.votes(61), () -> x.votes(-1), () -> x.votes(MIN), () -> x.votes(MAX));
        check.sentence(25, "STATE: no MEN.");
        SnowCitizens no = new SnowCitizens();
        check.allRefused(no, STATE, () -> no.votes(0), () -> no.votes(60));
        check.allRefused(no, BAD, () -> no.votes(61), () -> no.votes(-1));
    }

    private static void carried() {
        check.sentence(26, "In how many DAYS (0 .. 60) the motion is first CARRIED (is = 1), or not CARRIED (0).");
        SnowCitizens now = Check.north("z111111115 m0501");
        check.due("CARRIED now", now.carried(1), 0);
        check.due("not CARRIED in 1", now.carried(0), 1);
        now.day();
        check.due("not CARRIED now", now.carried(0), 0);
        check.due("CARRIED no more", now.carried(1), NONE);
        SnowCitizens last = Check.north("z111111115 m6401");
        check.due("not CARRIED in 60", last.carried(0), 60);
        SnowCitizens then = Check.north("z111111115 m6400 m9901");
        check.due("CARRIED in 60", then.carried(1), 60);
        check.due("not CARRIED by as many", then.carried(0), 0);
        SnowCitizens twice = Check.north("z111111115 m0601 m0700 m0901");
        // 2 to 1 on DAYS 0 and 1, 1 to 1 on DAY 2, 1 to 0 on DAYS 3 and 4.
        check.due("CARRIED first", twice.carried(1), 0);
        check.due("not CARRIED first", twice.carried(0), 2);
        twice.day();
        twice.day();
        check.due("CARRIED again", twice.carried(1), 1);
        check.sentence(26, "NONE: on none.");
        SnowCitizens late = Check.north("z111111115 m6500 m9901");
        check.due("CARRIED in 61", late.carried(1), NONE);
        SnowCitizens ever = Check.north("z111111115 m6501");
        check.due("not CARRIED in 61", ever.carried(0), NONE);
        ever.day();
        check.due("in 60 from the next DAY on", ever.carried(0), 60);
        check.due("never CARRIED", Check.north("z000000005 m0500").carried(1), NONE);
        check.due("always CARRIED", Check.north("z000000005 m0501").carried(0), NONE);
    }

    private static void carriedRefused() {
        check.sentence(26, "BAD;");
        SnowCitizens x = Check.north("z111111115 m0501");
        check.allRefused(x, BAD, () -> x.carried(2), () -> x.carried(-1), () -> x.carried(MIN), () -> x.carried(MAX));
        check.sentence(26, "STATE.");
        SnowCitizens none = new SnowCitizens();
        check.allRefused(none, STATE, () -> none.carried(0), () -> none.carried(1));
        check.allRefused(none, BAD, () -> none.carried(2), () -> none.carried(-1));
    }

    private static void days() {
        check.sentence(27, "On how many of the DAYS 0 .. n from now it is CARRIED.");
        SnowCitizens x = Check.north("z111111115 m0601 m0700 m0901");
        int[] sums = {1, 2, 2, 3, 4, 4, 4};
        for (int n = 0; n < sums.length; n++) {
            check.due("0 .. " + n, x.days(n), sums[n]);
        }
        check.due("0 .. 60", x.days(60), 4);
        x.day();
        check.due("from the next DAY on", x.days(60), 3);
        check.due("that DAY", x.days(0), 1);
        x.day();
        check.due("the DAY of as many", x.days(0), 0);
        SnowCitizens all = Check.north("z000000005 m0501");
        check.due("on one", all.days(0), 1);
        check.due("on all of 61", all.days(60), 61);
        SnowCitizens last = Check.north("z111111115 m6400 m9901");
        check.due("not on 60", last.days(59), 0);
        check.due("on the last", last.days(60), 1);
        check.due("on none", Check.north("z000000005 m0500").days(60), 0);
        check.sentence(27, "BAD;");
        check.allRefused(x, BAD, () -> x.days(61), () -> x.days(-1), () -> x.days(MIN), () -> x.days(MAX));
        check.sentence(27, "STATE.");
        SnowCitizens none = new SnowCitizens();
        check.allRefused(none, STATE, () -> none.days(0), () -> none.days(60));
        check.allRefused(none, BAD, () -> none.days(61), () -> none.days(-1));
    }

    private static void widow() {
        check.sentence(28, "Who is GONE first,");
        SnowCitizens x = Check.north("z111111115 m0600 m0300 m0500 m0200 m0400 m0300");
        check.told("the first", x, x.widow(), 3, 2);
        check.sentence(28, "or with the first (the least number);");
        x.day();
        x.day();
        check.told("two of them", x, x.widow(), 1, 1);
        SnowCitizens alike = Check.north("z111111115 m0300 m0300 m0300 m0300 m0300 m0300");
        check.told("all of them", alike, alike.widow(), 0, 3);
        SnowCitizens sunny = Check.north("z111111115 m0200 s0300 s0500 s0400 m0200 m0200");
        check.told("by 1 and by 2 a DAY", sunny, sunny.widow(), 0, 2);
        check.sentence(28, "in how many DAYS by asked().");
        SnowCitizens in = Check.north("z111111115 m9900 m6000");
        check.told("in 60", in, in.widow(), 1, 60);
        in.day();
        check.told("in 59", in, in.widow(), 1, 59);
        SnowCitizens one = Check.north("z111111115 m0100");
        check.told("in 1", one, one.widow(), 0, 1);
    }

    private static void widowOfNone() {
        check.sentence(28, "NONE: nobody in 60");
        SnowCitizens x = Check.north("z111111115 m6100 m9900 h0100");
        x.now();
        check.told("in 61", x, x.widow(), NONE, 7);
        x.day();
        check.told("in 60", x, x.widow(), 0, 60);
        SnowCitizens never = Check.north("z000000005 m0100");
        never.now();
        check.told("never", never, never.widow(), NONE, 1);
        check.sentence(28, "(those who are GONE now aside).");
        SnowCitizens y = Check.north("z900000005 m0100 m1000 m0100 m3000");
        y.day();
        check.told("none of the two", y, y.widow(), 1, 8);
        SnowCitizens all = Check.north("z900000005 m0900 m0800");
        all.day();
        all.now();
        check.told("all are GONE", all, all.widow(), NONE, 0);
        check.sentence(28, "STATE.");
        SnowCitizens none = new SnowCitizens();
        check.allRefused(none, STATE, none::widow);
    }

    private static void heir() {
        check.sentence(29, "Whose hat a MAN's is n DAYS from now: its own, if it is not GONE;");
        // In 1 DAY 1 and 4 are GONE, in 2 DAYS 2, too, in 3 DAYS 5, too; in 4 DAYS 0 is left, in 9 nobody.
        SnowCitizens x = Check.north("z111111115 m0900 m0100 m0200 m0400 m0100 m0300");
        for (int i = 0; i < 6; i++) {
            check.due("now, of " + i, x.heir(i, 0), i);
        }
        check.due("in 1 DAY", x.heir(3, 1), 3);
        check.due("to the last DAY", x.heir(0, 8), 0);
        check.sentence(29, "else that of the nearest one to the east who is not,");
        check.due("the next one", x.heir(1, 1), 2);
        check.due("the next one to the eastmost", x.heir(4, 1), 5);
        check.due("past one that is GONE", x.heir(1, 2), 3);
        check.due("the east ahead of the nearer west", x.heir(2, 2), 3);
        check.due("the east ahead of the next one to the west", x.heir(4, 2), 5);
        SnowCitizens ends = Check.north("z111111115 m0200 m0100 m0100 m0100 m0100 m0300");
        ends.snow(0, 2);
        check.due("from one end", ends.heir(1, 1), 5);
        check.due("to the other end", ends.heir(4, 3), 0);
        SnowCitizens far = Check.north("z111111115 m0100 m0100 m0100 m0100 m0100 m0300");
        check.due("the eastmost of the westmost", far.heir(0, 1), 5);
        check.sentence(29, "else of the nearest to the west:");
        check.due("past one that is GONE, to the west", x.heir(5, 3), 3);
        check.due("the next one to the west", x.heir(4, 3), 3);
        check.due("the westmost one", x.heir(5, 4), 0);
        check.due("the next one, the westmost", x.heir(1, 4), 0);
        check.sentence(29, "the number of who has it.");
        int[] who = {0, 2, 2, 3, 5, 5};
        for (int i = 0; i < 6; i++) {
            check.due("in 1 DAY, of " + i, x.heir(i, 1), who[i]);
        }
        x.day();
        for (int i = 0; i < 6; i++) {
            check.due("on the next DAY, of " + i, x.heir(i, 0), who[i]);
        }
    }

    private static void heirOfNone() {
        check.sentence(29, "NONE: all are GONE.");
        SnowCitizens x = Check.north("z111111115 m0200 m0100 m0200");
        for (int i = 0; i < 3; i++) {
            check.due("in 2 DAYS, of " + i, x.heir(i, 2), NONE);
            check.due("in 60 DAYS, of " + i, x.heir(i, 60), NONE);
        }
        check.due("not in 1", x.heir(1, 1), 2);
        x.day();
        x.day();
        check.due("now", x.heir(0, 0), NONE);
        check.sentence(29, "BAD.");
        SnowCitizens y = Check.north("z111111115 m0200");
        check.allRefused(y, BAD, () -> y.heir(1, 0), () -> y.heir(-1, 0), () -> y.heir(MIN, 0), () -> y.heir(MAX, 0),
            () -> y.heir(0, 61), () -> y.heir(0, -1), () -> y.heir(0, MIN), () -> y.heir(0, MAX));
        SnowCitizens none = new SnowCitizens();
        check.allRefused(none, BAD, () -> none.heir(0, 0));
    }
}
