/** The edges that promises 40 to 49 name, sentence by sentence. */
public final class ToldEdgesTest {
    private static final Check check = new Check("ToldEdgesTest");
    private static final int BAD = -1, FULL = -2, STATE = -4, NONE = -9;
    private static final int NOTHING = 1, BEYOND = 2, UNLIKE = 3, NOUGHT = 4, SIZE = 5;
    private static final int MIN = Integer.MIN_VALUE, MAX = Integer.MAX_VALUE;

    public static void main(String[] args) {
        odds();
        mid();
        lots();
        lotsRefused();
        lotsFull();
        asked();
        askedStays();
        upperAndLower();
        count();
        countOfKinds();
        finding();
        findings();
        digestOfNumbers();
        digestOfRows();
        check.endOf(40, 49);
    }

    private static void chance(SnowCitizens x, String label, long answer, long upper, long lower) {
        check.due(label, answer, 1);
        check.due(label + " (upper)", x.upper(), upper);
        check.due(label + " (lower)", x.lower(), lower);
    }

    private static void odds() {
        check.sentence(40, "Chances that a MAN is not GONE n (0 .. 8) DAYS from now by CLOUDS of p (0 .. 12): 1.");
        SnowCitizens x = Check.north("z111111115 m0100 m0800 m0900 h0100 s0200 i0100");
        chance(x, "now", x.odds(0, 0, 0), 1, 1);
        chance(x, "by one cloud", x.odds(0, 1, 1), 1, 12);
        chance(x, "by eight clouds", x.odds(0, 8, 1), 1, 429981696);
        chance(x, "by eight clouds of 11", x.odds(0, 8, 11), 214358881, 429981696);
        chance(x, "by clouds alone", x.odds(0, 8, 12), 1, 1);
        chance(x, "by none", x.odds(0, 8, 0), 0, 1);
        chance(x, "but for eight DAYS of SUN", x.odds(1, 8, 6), 255, 256);
        chance(x, "but for eight DAYS of SUN, by 11", x.odds(1, 8, 11), 429981695, 429981696);
        chance(x, "for sure", x.odds(2, 8, 0), 1, 1);
        chance(x, "a HATTED one", x.odds(3, 8, 0), 1, 1);
        chance(x, "a SUNNY one", x.odds(4, 1, 3), 1, 4);
        SnowCitizens iced = Check.north("z333333335 i0100 i0200 i0300");
        // Of 3 DAYS just DAY 1 counts, of 4 DAYS 1 and 3.
        chance(iced, "an ICED one on DAY 0", iced.odds(0, 1, 0), 1, 1);
        chance(iced, "an ICED one in 3 DAYS", iced.odds(0, 3, 3), 1, 4);
        chance(iced, "an ICED one in 4 DAYS", iced.odds(1, 4, 3), 1, 16);
        chance(iced, "a greater one in 4 DAYS", iced.odds(2, 4, 3), 7, 16);
        x.day();
        chance(x, "who is GONE", x.odds(0, 0, 12), 0, 1);
        chance(x, "who is GONE, in 8 DAYS", x.odds(0, 8, 12), 0, 1);
        check.sentence(40, "BAD.");
        SnowCitizens y = Check.north("z111111115 m0100");
        y.odds(0, 2, 6);
        check.allRefused(y, BAD, () -> y.odds(1, 0, 0), () -> y.odds(-1, 0, 0), () -> y.odds(MIN, 0, 0),
            () -> y.odds(MAX, 0, 0), () -> y.odds(0, 9, 0), () -> y.odds(0, -1, 0), () -> y.odds(0, MIN, 0),
            () -> y.odds(0, MAX, 0), () -> y.odds(0, 0, 13), () -> y.odds(0, 0, -1), () -> y.odds(0, 0, MIN),
            () -> y.odds(0, 0, MAX));
        SnowCitizens none = new SnowCitizens();
        check.allRefused(none, BAD, () -> none.odds(0, 0, 0));
    }

    private static void mid() {
        check.sentence(41, "The mean of its BULK then: 1.");
        SnowCitizens x = Check.north("z550000005 m0900 m9900 s0100 w9900");
        chance(x, "now", x.mid(0, 0, 6), 9, 1);
        chance(x, "9 or 4", x.mid(0, 1, 6), 13, 2);
        chance(x, "9, 4, 4 or 0", x.mid(0, 2, 6), 17, 4);
        chance(x, "by SUN alone", x.mid(0, 2, 0), 0, 1);
        chance(x, "by clouds alone", x.mid(0, 8, 12), 9, 1);
        chance(x, "the greatest", x.mid(1, 8, 12), 99, 1);
        chance(x, "99 less two times 5 by 11 of 12", x.mid(1, 8, 1), 539, 6);
        chance(x, "a SUNNY one by eight clouds", x.mid(2, 8, 1), 1, 429981696);
        chance(x, "a WED one, 2 by 7 of 12", x.mid(3, 1, 5), 99 * 6 - 7, 6);
        SnowCitizens many = Check.north("z111111115 m0800");
        chance(many, "8 less 8 times 5 of 12", many.mid(0, 8, 7), 14, 3);
        x.day();
        chance(x, "from now", x.mid(0, 1, 6), 2, 1);
        x.day();
        chance(x, "who is GONE", x.mid(0, 0, 12), 0, 1);
        check.sentence(41, "BAD.");
        SnowCitizens y = Check.north("z111111115 m0100");
        y.mid(0, 2, 6);
        check.allRefused(y, BAD, () -> y.mid(1, 0, 0), () -> y.mid(-1, 0, 0), () -> y.mid(MIN, 0, 0),
            () -> y.mid(MAX, 0, 0), () -> y.mid(0, 9, 0), () -> y.mid(0, -1, 0), () -> y.mid(0, MIN, 0),
            () -> y.mid(0, MAX, 0), () -> y.mid(0, 0, 13), () -> y.mid(0, 0, -1), () -> y.mid(0, 0, MIN),
            () -> y.mid(0, 0, MAX));
        SnowCitizens none = new SnowCitizens();
        check.allRefused(none, BAD, () -> none.mid(0, 0, 0));
    }

    private static void lots() {
        check.sentence(42, "n (1 .. 20) DAYS pass truly by LOTS of a seed: for each a number:"
            + " it modulo 12 below p: nobody MELTS:");
        int[] seeds = {1, 2, 2147483646};
        int[][] rests = {
            {7, 6, 6, 1, 1, 11, 5, 5, 11, 11, 7, 11, 3, 9, 9, 3, 5, 2, 11, 3},
            {2, 0, 5, 7, 7, 10, 3, 10, 10, 3, 2, 3, 11, 11, 11, 11, 3, 9, 3, 11},
            {0, 1, 1, 6, 6, 8, 2, 2, 8, 8, 0, 8, 4, 10, 10, 4, 2, 5, 8, 4}};
        for (int k = 0; k < seeds.length; k++) {
            for (int p = 0; p <= 12; p++) {
                SnowCitizens x = Check.north("z111111115 m9900 i9900");
                int size = 99;
                for (int n = 1; n <= 20; n++) {
                    size -= rests[k][n - 1] < p ? 0 : 1;
                    check.due("not GONE", x.lots(n, p, seeds[k]), 2);
                    check.due(n + " DAYS by p " + p + " from seed " + seeds[k], x.bulk(0, 0), size);
                    check.due("they are DEEDS", x.undo(0), n);
                }
            }
        }
        check.sentence(42, "how many are not GONE then.");
        SnowCitizens x = Check.north("z111111115 m0100 m0200 m2000");
        check.due("by clouds", x.lots(20, 12, 1), 3);
        check.due("by one SUN", x.lots(1, 0, 1), 2);
        check.due("by two", x.lots(1, 0, 1), 1);
        check.due("by 20", x.lots(18, 0, 1), 0);
        check.due("DAYS", x.count(1) * 100 + x.count(3), 4040);
        check.due("the last is undone", x.undo(39), 1);
        check.due("by 19", x.bulk(2, 0), 1);
    }

    private static void lotsRefused() {
        check.sentence(42, "BAD;");
        SnowCitizens x = Check.north("z111111115 m2000");
        check.allRefused(x, BAD, () -> x.lots(0, 0, 1), () -> x.lots(21, 0, 1), () -> x.lots(-1, 0, 1),
            () -> x.lots(MIN, 0, 1), () -> x.lots(MAX, 0, 1), () -> x.lots(1, -1, 1), () -> x.lots(1, 13, 1),
            () -> x.lots(1, MIN, 1), () -> x.lots(1, MAX, 1), () -> x.lots(1, 0, 0), () -> x.lots(1, 0, -1),
            () -> x.lots(1, 0, MIN), () -> x.lots(1, 0, MAX));
        check.due("the greatest", x.lots(20, 12, MAX - 1), 1);
        check.due("the least", x.lots(1, 0, 1), 1);
        check.sentence(42, "STATE;");
        SnowCitizens none = new SnowCitizens();
        check.allRefused(none, STATE, () -> none.lots(1, 0, 1), () -> none.lots(20, 12, 2147483646));
        check.allRefused(none, BAD, () -> none.lots(0, 0, 1), () -> none.lots(1, 13, 1), () -> none.lots(1, 0, 0));
    }

    private static void lotsFull() {
        check.sentence(42, "FULL: with n more there would be more than 60 DEEDS.");
        for (int deeds = 38; deeds <= 60; deeds++) {
            SnowCitizens x = Check.north("z000000005 m2000");
            for (int k = 0; k < deeds; k++) {
                x.shade(0, k % 10);
            }
            for (int n : new int[] {1, 2, 19, 20}) {
                if (deeds + n > 60) {
                    check.allRefused(x, FULL, () -> x.lots(n, 0, 1));
                } else {
                    check.due(n + " more than " + deeds, x.lots(n, 0, 1), 1);
                    check.due("DEEDS", x.count(3), deeds + n);
                    x.undo(deeds);
                }
            }
        }
        check.sentence(42, "(FULL last.)");
        SnowCitizens full = Check.north("z000000005 m2000");
        for (int k = 0; k < 60; k++) {
            full.day();
        }
        check.allRefused(full, FULL, () -> full.lots(1, 0, 1));
        check.allRefused(full, BAD, () -> full.lots(21, 0, 1), () -> full.lots(1, 13, 1), () -> full.lots(1, 0, 0));
    }

    private static void asked() {
        check.sentence(43, "What the latest lay(), at(), mean(), man(), now(), votes(), widow(), fits()");
        SnowCitizens x = Check.north("z500000005 m0501 w2000 m1300");
        x.row(0, 2);
        x.lay(0, 0, 7);
        check.told("lay", x, x.lay(0, 0, 9), 1, 7);
        check.told("at", x, x.at(0, 1), 1, 0);
        check.told("at, again", x, x.at(0, 0), 1, 9);
        check.told("mean", x, x.mean(0), 1, 4);
        check.told("man", x, x.man(2, 1), 1, 13);
        check.told("now", x, x.now(), 0, 7);
        check.told("votes", x, x.votes(0), 2, 1);
        Check.lay(x, 1, 0, 55);
        check.told("fits", x, x.fits(0, 1), 1, 55);
        check.told("widow", x, x.widow(), 0, 1);
        check.told("it is told again", x, x.asked(), 1, 1);
        check.sentence(43, "that was not refused (nor NONE, but as told) told;");
        check.allRefused(x, BAD, () -> x.lay(6, 0, 0), () -> x.at(6, 0), () -> x.mean(6), () -> x.man(3, 0),
            () -> x.votes(61), () -> x.fits(3, 0));
        check.allFound(x, NOTHING, () -> x.lay(2, 0, 0), () -> x.at(2, 0), () -> x.mean(2), () -> x.fits(0, 2));
        check.due("as before", x.asked(), 1);
        SnowCitizens y = Check.north("z000000005 m0401 m0500");
        y.now();
        check.told("NONE by widow()", y, y.widow(), NONE, 3);
        check.told("NONE as told by man()", y, y.man(0, 5), 1, NONE);
        y.now();
        Check.lay(y, 0, 0, 4, 1, 5);
        check.told("NONE as told by fits()", y, y.fits(0, 0), 0, NONE);
        check.sentence(43, "0 before.");
        SnowCitizens none = new SnowCitizens();
        check.due("new", none.asked(), 0);
        none.row(0, 3);
        none.tear(1);
        none.now();
        none.at(0, 3);
        check.due("behind refusals", none.asked(), 0);
    }

    private static void askedStays() {
        check.sentence(43, "told;");
        SnowCitizens x = Check.north("z500000005 h9901 w2000 s1300");
        Check.lay(x, 0, 0, 1, 2);
        x.row(1, 0);
        x.man(0, 1);
        x.row(2, 3);
        x.copy(0, 0, 2, 0, 3);
        x.tear(2);
        x.text(1, 3);
        x.put(1, 0, 5);
        x.fault(0);
        x.north(0);
        x.mark(0, 1);
        x.sun(3);
        x.right(4);
        x.day();
        x.shade(0, 3);
        x.snow(1, 4);
        x.keep(0);
        x.undo(1);
        x.on(0);
        x.bulk(1, 3);
        x.gone(2);
        x.carried(0);
        x.days(60);
        x.heir(0, 3);
        x.guard(1, 3, 4);
        x.bribe(0, 3, 4);
        x.carry(0, 3);
        x.census(4);
        x.counted(0);
        x.kinds(0, 1);
        x.rights(7);
        x.game(1);
        x.first(1);
        x.odds(0, 3, 3);
        x.mid(0, 3, 3);
        x.lots(3, 3, 3);
        x.upper();
        x.lower();
        x.count(4);
        x.finding();
        x.findings(1);
        x.digest();
        check.due("by other calls", x.asked(), 99);
    }

    private static void upperAndLower() {
        SnowCitizens x = Check.north("z111111115 m0200");
        check.sentence(44, "The upper number that was told last;");
        x.odds(0, 2, 6);
        check.due("by odds", x.upper(), 3);
        x.mid(0, 1, 6);
        check.due("by mid, the last", x.upper(), 3);
        x.mid(0, 2, 5);
        check.due("by mid", x.upper(), 5);
        x.odds(0, 9, 6);
        x.mid(1, 0, 6);
        x.north(0);
        check.due("what was refused tells none", x.upper(), 5);
        check.sentence(45, "Its lower number;");
        check.due("of the last", x.lower(), 6);
        x.mid(0, 1, 6);
        check.due("by mid, the last", x.lower(), 2);
        x.odds(0, 2, 6);
        check.due("by odds", x.lower(), 4);
        check.sentence(44, "0 before.");
        SnowCitizens none = new SnowCitizens();
        none.odds(0, 0, 0);
        check.due("new", none.upper(), 0);
        check.sentence(45, "1 before.");
        check.due("new", none.lower(), 1);
    }

    private static void count() {
        SnowCitizens none = new SnowCitizens();
        SnowCitizens x = Check.north("z900000005 m0900 h9900 m1000");
        check.sentence(46, "0 MEN, 1 the DAY,");
        check.due("no MEN", none.count(0), 0);
        check.due("no DAY", none.count(1), 0);
        check.due("MEN", x.count(0), 3);
        check.due("DAY 0", x.count(1), 0);
        x.day();
        check.due("GONE ones are MEN", x.count(0), 3);
        check.due("DAY 1", x.count(1), 1);
        check.sentence(46, "2 the RIGHT (0 without MEN),");
        check.due("no MEN", none.count(2), 0);
        check.due("the RIGHT", x.count(2), 5);
        x.right(9);
        check.due("another RIGHT", x.count(2), 9);
        check.sentence(46, "3 DEEDS,");
        check.due("none", none.count(3), 0);
        check.due("a DAY", x.count(3), 1);
        x.shade(0, 1);
        x.lots(2, 12, 1);
        check.due("SHADE and LOTS", x.count(3), 4);
        x.undo(1);
        check.due("undone", x.count(3), 1);
        check.sentence(46, "4 all BULKS together,");
        check.due("none", none.count(4), 0);
        check.due("BULKS", x.count(4), 91 + 1);
        check.due("the most", Check.north("z000000005 m9900 m9900 m9900 m9900 m9900 m9900").count(4), 594);
        SnowCitizens gone = Check.north("z900000005 m0900 m0100");
        gone.day();
        check.due("all are GONE", gone.count(4), 0);
    }

    private static void countOfKinds() {
        check.sentence(46, "5 HATTED ones (LAWYERS, ICED ones, too),");
        SnowCitizens x = Check.north("z900000005 m0900 h0100 w0900 s0900 l0100 i0100");
        check.due("three of six", x.count(5), 3);
        x.day();
        check.due("GONE or not", x.count(5), 3);
        check.due("none", Check.north("z900000005 m0900 w0900 s0900").count(5), 0);
        check.due("all", Check.north("z900000005 h0900 l0900 i0900").count(5), 3);
        check.sentence(46, "6 ROWS,");
        SnowCitizens none = new SnowCitizens();
        for (int r = 0; r < 6; r++) {
            check.due("ROWS", none.count(6), r);
            none.row(r, 0);
        }
        check.due("all ROWS", none.count(6), 6);
        none.tear(3);
        check.due("one less", none.count(6), 5);
        x.guard(0, 0, 5);
        check.due("a ROW by a call", x.count(6), 1);
        check.sentence(46, "7 TEXTS that are there,");
        for (int t = 0; t < 4; t++) {
            check.due("TEXTS", none.count(7), t);
            none.text(t, 0);
        }
        check.due("all TEXTS", none.count(7), 4);
        check.sentence(46, "8 kept NORTHS.");
        for (int k = 0; k < 3; k++) {
            check.due("kept NORTHS", x.count(8), k);
            x.keep(k);
        }
        check.due("all kept NORTHS", x.count(8), 3);
        check.sentence(46, "BAD.");
        check.allRefused(x, BAD, () -> x.count(9), () -> x.count(-1), () -> x.count(MIN), () -> x.count(MAX));
    }

    private static void finding() {
        check.sentence(47, "The latest FINDING");
        SnowCitizens x = Check.north("z111111115 m0200");
        x.row(0, 0);
        int[] all = {NOTHING, BEYOND, UNLIKE, NOUGHT, SIZE, NOTHING};
        for (int f : all) {
            find(x, f);
            check.due("FINDING " + f, x.finding(), f);
        }
        x.row(6, 0);
        x.keep(0);
        x.on(0);
        x.now();
        check.due("as before", x.finding(), NOTHING);
        check.sentence(47, "(0 before any).");
        SnowCitizens none = new SnowCitizens();
        none.now();
        none.row(6, 0);
        check.due("new", none.finding(), 0);
    }

    private static void find(SnowCitizens x, int f) {
        switch (f) {
            case NOTHING:
                x.tear(5);
                break;
            case BEYOND:
                x.at(0, 0);
                break;
            case UNLIKE:
                x.mark(0, 5);
                break;
            case NOUGHT:
                x.mean(0);
                break;
            default:
                x.row(0, -1);
                break;
        }
    }

    private static void findings() {
        check.sentence(48, "How often a FINDING (1 .. 5) was answered.");
        SnowCitizens x = Check.north("z111111115 m0200");
        x.row(0, 0);
        for (int f = 1; f <= 5; f++) {
            check.due("none yet", x.findings(f), 0);
            for (int k = 0; k < 10 * f; k++) {
                find(x, f);
            }
        }
        for (int f = 1; f <= 5; f++) {
            check.due("how often " + f, x.findings(f), 10 * f);
        }
        x.north(0);
        x.row(6, 0);
        check.due("still as often", x.findings(1), 10);
        check.sentence(48, "BAD.");
        check.allRefused(x, BAD, () -> x.findings(0), () -> x.findings(6), () -> x.findings(-1),
            () -> x.findings(MIN), () -> x.findings(MAX));
    }

    private static long onto(long h, long... all) {
        for (long v : all) {
            h = 31 * h + v;
        }
        return h;
    }

    private static long zeros(int n) {
        return onto(17, new long[n]);
    }

    private static void digestOfNumbers() {
        check.sentence(49, "h = 17; then h = 31 h + v for each v (of a call that tells by asked(): what it tells,"
            + " not the 1 that it answers; asked() stays): count() 0 to 8; of each MAN man() 0 to 5;");
        SnowCitizens none = new SnowCitizens();
        long missing = onto(zeros(9), -1, -1, -1, -1, -1, -1, -1, -1, -1, -1, -1, -1, -1);
        check.due("new", none.digest(), missing);
        check.due("twice", none.digest(), missing);
        SnowCitizens x = Check.north("z900000005 m0991 s2310 l9900");
        x.text(0, 0);
        x.now();
        long h = onto(17, 3, 0, 5, 0, 9 + 23 + 99, 1, 0, 1, 0);
        h = onto(h, 0, 9, 9, 1, 1, 1, 3, 23, 1, 0, 1, 1, 4, 99, 0, 0, 1, 0);
        h = onto(h, -1, -1, -1, -1, -1, -1, -1, -1, -1, 0, -1, -1, -1);
        check.due("three MEN", x.digest(), h);
        check.due("asked() stays", x.asked(), 7);
        x.shade(0, 0);
        x.day();
        h = onto(17, 3, 1, 5, 2, 0 + 14 + 91, 1, 0, 1, 0);
        h = onto(h, 0, 0, 0, 1, 0, NONE, 3, 14, 1, 0, 1, 1, 4, 91, 0, 0, 1, 0);
        h = onto(h, -1, -1, -1, -1, -1, -1, -1, -1, -1, 0, -1, -1, -1);
        check.due("one is GONE", x.digest(), h);
        check.sentence(49, "of each kept NORTH how many DEEDS (-1: missing);");
        x.keep(1);
        x.undo(0);
        x.keep(2);
        h = onto(17, 3, 0, 5, 0, 9 + 23 + 99, 1, 0, 1, 2);
        h = onto(h, 0, 9, 9, 1, 1, 1, 3, 23, 1, 0, 1, 1, 4, 99, 0, 0, 1, 0);
        h = onto(h, -1, 2, 0, -1, -1, -1, -1, -1, -1, 0, -1, -1, -1);
        check.due("two are kept", x.digest(), h);
    }

    private static void digestOfRows() {
        check.sentence(49, "of each ROW its size (-1: missing) and places,");
        SnowCitizens x = new SnowCitizens();
        Check.lay(x, 0, MIN, MAX);
        x.row(2, 0);
        Check.lay(x, 5, 0, -1, 7);
        long h = onto(17, 0, 0, 0, 0, 0, 0, 3, 0, 0, -1, -1, -1);
        h = onto(h, 2, MIN, MAX, -1, 0, -1, -1, 3, 0, -1, 7, -1, -1, -1, -1);
        check.due("three ROWS", x.digest(), h);
        x.tear(0);
        x.row(5, 40);
        h = onto(17, 0, 0, 0, 0, 0, 0, 2, 0, 0, -1, -1, -1, -1, -1, 0, -1, -1, 40);
        h = onto(onto(h, new long[40]), -1, -1, -1, -1);
        check.due("a missing one, and one of most", x.digest(), h);
        check.sentence(49, "of each TEXT likewise.");
        SnowCitizens y = new SnowCitizens();
        y.text(0, 0);
        y.text(2, 3);
        y.put(2, 0, 127);
        y.put(2, 2, 128);
        y.text(3, 60);
        long[] blanks = new long[60];
        java.util.Arrays.fill(blanks, 32);
        h = onto(17, 0, 0, 0, 0, 0, 0, 0, 3, 0, -1, -1, -1, -1, -1, -1, -1, -1, -1);
        h = onto(onto(h, 0, -1, 3, 127, 32, -128, 60), blanks);
        check.due("three TEXTS", y.digest(), h);
        y.text(3, 1);
        y.text(2, 1);
        h = onto(17, 0, 0, 0, 0, 0, 0, 0, 3, 0, -1, -1, -1, -1, -1, -1, -1, -1, -1);
        check.due("shorter ones", y.digest(), onto(h, 0, -1, 1, 32, 1, 32));
    }
}
