/** The edges that promises 10 to 15 name, sentence by sentence. */
public final class NorthsEdgesTest {
    private static final Check check = new Check("NorthsEdgesTest");
    private static final int BAD = -1, FINDING = -3, STATE = -4, NONE = -9;
    private static final int NOTHING = 1, UNLIKE = 3;
    private static final int MIN = Integer.MIN_VALUE, MAX = Integer.MAX_VALUE;

    public static void main(String[] args) {
        fault();
        north();
        northRefused();
        man();
        manRefused();
        markOfHatted();
        markOfWed();
        markOfSunny();
        markOfLawyer();
        markOfIced();
        markRefused();
        sun();
        right();
        check.endOf(10, 15);
    }

    private static void fault() {
        check.sentence(10, "A FAULT of a TEXT;");
        String[] texts = {"", " ", "z", "z12345678", "z123456789", "x", "z12x", "z123456780m0100", "z123456789m00",
            "z123456789m0100 k", "z123456789m0100 h0102", "z123456789m0100m0100m0100m0100m0100m0100m0100"};
        int[] faults = {0, 1, 1, 9, 10, 0, 3, 9, 12, 16, 20, 40};
        for (int k = 0; k < texts.length; k++) {
            check.due("of '" + texts[k] + "'", Check.text(texts[k]).fault(0), faults[k]);
        }
        SnowCitizens last = new SnowCitizens();
        Check.write(last, 3, "   x");
        check.due("of the last TEXT", last.fault(3), 3);
        check.due("it is told again", last.fault(3), 3);
        check.sentence(10, "NONE: there is none.");
        check.due("of the shortest", Check.text("z123456789m0100").fault(0), NONE);
        check.due("of six MEN", Check.text("z123456789m0100h0100w0100s0100l0100i0100" + " ".repeat(20)).fault(0), NONE);
        SnowCitizens mended = Check.text("z123456780m0100");
        check.due("ahead of mending", mended.fault(0), 9);
        mended.put(0, 9, '1');
        check.due("behind mending", mended.fault(0), NONE);
        check.sentence(10, "BAD;");
        SnowCitizens x = Check.text("z123456789m0100");
        check.allRefused(x, BAD, () -> x.fault(4), () -> x.fault(-1), () -> x.fault(MIN), () -> x.fault(MAX));
        check.sentence(10, "NOTHING.");
        check.allFound(x, NOTHING, () -> x.fault(1), () -> x.fault(3));
    }

    private static void north() {
        check.sentence(11, "A NORTH by a TEXT");
        SnowCitizens x = new SnowCitizens();
        Check.write(x, 3, "  z123456789 m0191   i9900 ");
        Check.write(x, 0, "z222222223 s0451");
        check.due("how many", x.north(3), 2);
        int[][] want = {{0, 1, 9, 1}, {5, 99, 0, 0}};
        for (int i = 0; i < 2; i++) {
            for (int what = 0; what < 4; what++) {
                check.told("man " + i + " " + what, x, x.man(i, what), 1, want[i][what]);
            }
        }
        check.due("the RIGHT", x.count(2), 9);
        check.due("the TEXT stays", x.count(7), 2);
        x.text(3, 0);
        check.due("the NORTH is not its TEXT", x.sun(7), 8);
        check.sentence(11, "(anew: DAY 0, no DEEDS;");
        x.lots(10, 5, 7);
        x.shade(0, 1);
        x.right(2);
        check.due("anew", x.north(0), 1);
        check.due("DAY 0", x.now(), 0);
        check.due("no DEEDS", x.count(3), 0);
        check.allRefused(x, BAD, () -> x.undo(1));
        check.due("none can be undone", x.undo(0), 0);
        check.due("nor changes a MAN", x.bulk(0, 0), 4);
        check.due("its own RIGHT", x.count(2), 3);
        for (int k = 0; k < 60; k++) {
            x.shade(0, 1);
        }
        check.due("anew, when all DEEDS are done", x.north(0), 1);
        check.due("there is room again", x.day() + x.count(3), 2);
        northOfFewerMen();
        check.sentence(11, "kept NORTHS go):");
        x.keep(0);
        x.keep(1);
        x.keep(2);
        check.due("kept", x.count(8), 3);
        x.north(0);
        check.due("gone", x.count(8), 0);
        check.allFound(x, NOTHING, () -> x.on(0), () -> x.on(1), () -> x.on(2));
        check.sentence(11, "how many MEN.");
        StringBuilder text = new StringBuilder("z123456789");
        for (int men = 1; men <= 6; men++) {
            SnowCitizens y = Check.text(text.append("w0100").toString());
            check.due(men + " MEN", y.north(0), men);
            check.due(men + " MEN counted", y.count(0), men);
        }
    }

    /** What was told of six MEN must not come up when there is one. */
    private static void northOfFewerMen() {
        SnowCitizens x = new SnowCitizens();
        Check.write(x, 0, "z900000005 m9901 h9901 m9901 l9901 m9901 i9901");
        Check.write(x, 1, "z900000005 m0900");
        Check.write(x, 2, "z900000005 m9901");
        for (int t = 1; t <= 2; t++) {
            boolean one = t == 2;
            x.north(0);
            check.due("six vote 1", x.votes(0) * 10 + x.game(0), 61);
            x.bribe(0, 1, 0);
            x.guard(63, 8, 0);
            x.census(0);
            check.due("one MAN", x.north(t), 1);
            check.due("one vote", x.votes(0) * 10 + x.asked(), one ? 10 : 1);
            check.told("one that is not GONE", x, x.now(), 0, 1);
            check.due("one BULK", x.count(4), one ? 99 : 9);
            check.due("no HATTED one", x.count(5), 0);
            check.due("the game of one", x.game(0) * 10 + x.game(1), one ? 11 : 0);
            check.due("what to do first", x.first(1), one ? 0 : NONE);
            check.due("CARRIED", x.carried(1), one ? 0 : NONE);
            check.due("the bribe", x.bribe(0, 0, 0), one ? NONE : 0);
            check.due("the guard", x.guard(1, 1, 0), one ? 0 : 1);
            check.row("a ROW of one", x, 0, one ? 0 : 1);
            check.due("the census", x.census(0), 1);
            check.row("an order of one", x, 0, 0);
            check.due("the RIGHTS", x.rights(1), 1022);
            check.due("the heir", x.heir(0, 1), one ? 0 : NONE);
            check.due("who is GONE first", x.widow(), one ? NONE : 0);
        }
    }

    private static void northRefused() {
        SnowCitizens x = Check.north("z123456789m0100");
        x.keep(1);
        x.day();
        check.sentence(11, "BAD;");
        check.allRefused(x, BAD, () -> x.north(4), () -> x.north(-1), () -> x.north(MIN), () -> x.north(MAX));
        check.sentence(11, "NOTHING;");
        check.allFound(x, NOTHING, () -> x.north(1), () -> x.north(3));
        check.sentence(11, "STATE: a FAULT.");
        Check.write(x, 1, "z555555555m0100m");
        x.text(2, 0);
        Check.write(x, 3, "z555555555m0100m0100m0100m0100m0100m0100 m");
        check.allRefused(x, STATE, () -> x.north(1), () -> x.north(2), () -> x.north(3));
        check.due("what was read ahead of the FAULT is not told", x.sun(0), 1);
        check.due("its MAN stays", x.count(0) + x.undo(0) + x.bulk(0, 0), 3);
        check.due("what is kept stays", x.on(1), 0);
        check.sentence(11, "(STATE behind NOTHING.)");
        SnowCitizens none = new SnowCitizens();
        check.allFound(none, NOTHING, () -> none.north(0));
        check.allRefused(none, BAD, () -> none.north(4));
    }

    private static void manTells(SnowCitizens x, int what, int... want) {
        for (int i = 0; i < want.length; i++) {
            check.told("of " + i, x, x.man(i, what), 1, want[i]);
        }
    }

    private static void man() {
        SnowCitizens x = Check.north("z500000005 m0190 h0501 w0410 s5000 l0121 i9900");
        check.sentence(12, "Of a MAN: 0 the KIND,");
        manTells(x, 0, 0, 1, 2, 3, 4, 5);
        check.sentence(12, "1 the BULK,");
        manTells(x, 1, 1, 5, 4, 50, 1, 99);
        check.sentence(12, "2 the SHADE,");
        manTells(x, 2, 9, 0, 1, 0, 2, 0);
        check.sentence(12, "3 its own VOTE,");
        manTells(x, 3, 0, 1, 0, 0, 1, 0);
        check.sentence(12, "4 whether it has the RIGHT (1, 0),");
        manTells(x, 4, 0, 1, 0, 1, 1, 1);
        check.sentence(12, "5 how it votes now (NONE: not), told by asked(): 1.");
        manTells(x, 5, NONE, 1, NONE, 1, 1, 0);
        x.right(4);
        manTells(x, 5, NONE, 1, 1, 1, 1, 0);
        x.right(1);
        manTells(x, 5, 0, 1, 1, 1, 1, 0);
        x.day();
        // 4 MELTS of the HATTED one, 2 of the WED one, 6 of the SUNNY one, 2 of the LAWYER, none of the others.
        manTells(x, 1, 1, 1, 2, 44, 0, 99);
        manTells(x, 4, 1, 1, 1, 1, 0, 1);
        manTells(x, 5, 0, 1, 1, 1, NONE, 0);
        x.right(2);
        manTells(x, 4, 0, 0, 1, 1, 0, 1);
        manTells(x, 5, NONE, NONE, 0, 1, NONE, 0);
        x.shade(0, 3);
        x.snow(1, 9);
        manTells(x, 2, 3);
        manTells(x, 1, 1, 10);
    }

    private static void manRefused() {
        check.sentence(12, "BAD.");
        SnowCitizens x = Check.north("z500000005 m0190 h0501");
        check.allRefused(x, BAD, () -> x.man(2, 0), () -> x.man(-1, 0), () -> x.man(6, 0), () -> x.man(MIN, 0),
            () -> x.man(MAX, 0), () -> x.man(0, 6), () -> x.man(0, -1), () -> x.man(0, MIN), () -> x.man(0, MAX));
        SnowCitizens none = new SnowCitizens();
        check.allRefused(none, BAD, () -> none.man(0, 0), () -> none.man(0, 5));
    }

    private static void markOfHatted() {
        check.sentence(13, "What a MAN that IS of a KIND tells: a HATTED one (LAWYER, ICED, too)"
            + " by how much its BULK gets less on the DAY to come");
        SnowCitizens x = Check.north("z410510115 h5000 l5010 i5000 h5030 l5040 i5090");
        int[][] by = {{3, 2, 0, 0, 0, 0}, {0, 0, 0, 0, 0, 0}, {0, 0, 0, 0, 0, 0}, {4, 3, 4, 1, 0, 0}};
        for (int day = 0; day < by.length; day++) {
            for (int i = 0; i < 6; i++) {
                int ahead = x.bulk(i, 0);
                check.due("DAY " + day + " of " + i, x.mark(i, 1), by[day][i]);
                check.due("as foretold", ahead - x.bulk(i, 1), by[day][i]);
            }
            x.day();
        }
        check.sentence(13, "(no more than it has),");
        SnowCitizens y = Check.north("z990000005 h0700 h0800 h0900 l0100 i0700 i0900");
        int[] no = {7, 8, 8, 1, 0, 0};
        int[] then = {0, 0, 0, 0, 7, 8};
        for (int i = 0; i < 6; i++) {
            check.due("DAY 0 of " + i, y.mark(i, 1), no[i]);
        }
        y.day();
        for (int i = 0; i < 6; i++) {
            check.due("DAY 1 of " + i, y.mark(i, 1), i == 2 ? 1 : then[i]);
        }
    }

    private static void markOfWed() {
        check.sentence(13, "a WED one as which MAN it votes now (the next one to the west,");
        SnowCitizens x = Check.north("z000000005 m0500 w0500 l0100 w0500 s0500 w0500");
        check.due("a MAN", x.mark(1, 2), 0);
        check.due("a LAWYER below the RIGHT", x.mark(3, 2), 2);
        check.due("a SUNNY one", x.mark(5, 2), 4);
        check.sentence(13, "also where that is WED itself;");
        SnowCitizens y = Check.north("z000000005 w0500 w0500 w0500 w0500 w0500 w0500");
        for (int i = 1; i < 6; i++) {
            check.due("WED " + i, y.mark(i, 2), i - 1);
        }
        check.sentence(13, "itself: by its own;");
        check.due("the westmost one", y.mark(0, 2), 0);
        SnowCitizens z = Check.north("z900000005 m0400 w0500 w0400 w0500 l0900 w0900");
        check.due("where a MAN has not the RIGHT", z.mark(1, 2), 1);
        check.due("where a WED one has not", z.mark(3, 2), 3);
        check.due("where a LAWYER is not GONE", z.mark(5, 2), 4);
        z.shade(4, 0);
        z.right(4);
        check.due("where it has, by another RIGHT", z.mark(1, 2), 0);
        z.right(5);
        z.day();
        check.due("where a LAWYER has 1", z.mark(5, 2), 4);
        check.sentence(13, "NONE: not),");
        SnowCitizens none = Check.north("z500000005 m0900 w0400 w0500 w0700");
        check.due("without the RIGHT", none.mark(1, 2), NONE);
        check.due("with it", none.mark(2, 2), 2);
        none.day();
        check.due("without it by melting", none.mark(2, 2), NONE);
        check.due("still with it", none.mark(3, 2), 3);
        none.right(9);
        check.due("by no RIGHT", none.mark(3, 2), NONE);
    }

    private static void markOfSunny() {
        check.sentence(13, "a SUNNY one in how many DAYS it is GONE");
        SnowCitizens x = Check.north("z300000005 s0400 s0500 s0590 s1210");
        int[] in = {1, 2, 5, 9};
        for (int i = 0; i < 4; i++) {
            check.due("of " + i, x.mark(i, 3), in[i]);
            check.due("as gone() tells", x.gone(i), in[i]);
        }
        check.sentence(13, "(0: it is;");
        x.day();
        check.due("GONE", x.mark(0, 3), 0);
        check.due("not yet", x.mark(1, 3), 1);
        x.day();
        check.due("GONE, too", x.mark(1, 3), 0);
        check.sentence(13, "NONE: not in 60),");
        SnowCitizens y = Check.north("z000000005 s5900 s6000 s6100 s9900");
        int[] late = {59, 60, NONE, NONE};
        for (int i = 0; i < 4; i++) {
            check.due("late, of " + i, y.mark(i, 3), late[i]);
        }
        y.day();
        check.due("from the next DAY on", y.mark(2, 3), 60);
    }

    private static void markOfLawyer() {
        check.sentence(13, "a LAWYER on how many DAYS of 60 from now on (this one first) it votes,");
        SnowCitizens x = Check.north("z222222229 l0800 l0100 l6600 l6700 l6800 l0810");
        int[] on = {8, 1, 2, 1, 0, 60};
        for (int i = 0; i < 6; i++) {
            check.due("of " + i, x.mark(i, 4), on[i]);
        }
        x.day();
        int[] then = {7, 0, 3, 2, 1, 60};
        for (int i = 0; i < 6; i++) {
            check.due("on the next DAY, of " + i, x.mark(i, 4), then[i]);
        }
        check.sentence(13, "its BULK being less than the RIGHT,");
        SnowCitizens y = Check.north("z222222225 l0500 l0400 l0600");
        check.due("as much as the RIGHT", y.mark(0, 4), 4);
        check.due("less than it", y.mark(1, 4), 4);
        check.due("more than it", y.mark(2, 4), 4);
        y.right(1);
        check.due("no BULK is less than 1", y.mark(0, 4), 0);
        y.right(2);
        check.due("1 is less than 2", y.mark(0, 4), 1);
        y.right(9);
        check.due("5, 4, 3, 2, 1 are less than 9", y.mark(0, 4), 5);
    }

    private static void markOfIced() {
        check.sentence(13, "an ICED one on how many of 8 DAYS from now on (this one first) it MELTS (by more than 0;");
        // Of the odd DAYS' SUNS 2, 1, 0, 9 just 2 and 9 are above 1.
        SnowCitizens x = Check.north("z929190995 i5000 i5010 i5080 i5090");
        int[] on = {2, 1, 0, 0};
        for (int day = 0; day < 10; day++) {
            for (int i = 0; i < 4; i++) {
                check.due("DAY " + day + " of " + i, x.mark(i, 5), on[i]);
            }
            x.day();
        }
        SnowCitizens all = Check.north("z929292925 i5000");
        check.due("on 4 at most", all.mark(0, 5), 4);
        check.sentence(13, "as if it had BULK enough).");
        SnowCitizens y = Check.north("z929292925 i0100 i0200");
        for (int day = 0; day < 10; day++) {
            check.due("DAY " + day, y.mark(0, 5) * 10 + y.mark(1, 5), 44);
            y.day();
        }
        check.told("both are GONE", y, y.now(), 10, 0);
    }

    private static void markRefused() {
        check.sentence(13, "BAD: also KIND 0;");
        SnowCitizens x = Check.north("z111111115 m2000 h2000");
        check.allRefused(x, BAD, () -> x.mark(0, 0), () -> x.mark(1, 0), () -> x.mark(0, 6), () -> x.mark(0, -1),
            () -> x.mark(0, MIN), () -> x.mark(0, MAX), () -> x.mark(2, 1), () -> x.mark(-1, 1), () -> x.mark(6, 5),
            () -> x.mark(MIN, 1), () -> x.mark(MAX, 1));
        SnowCitizens none = new SnowCitizens();
        check.allRefused(none, BAD, () -> none.mark(0, 1), () -> none.mark(0, 0));
        check.sentence(13, "UNLIKE.");
        String kinds = "mhwsli";
        boolean[][] is = new boolean[6][6];
        for (int kind = 0; kind < 6; kind++) {
            is[kind][kind] = true;
        }
        is[4][1] = true;
        is[5][1] = true;
        for (int kind = 0; kind < 6; kind++) {
            SnowCitizens y = Check.north("z111111115 " + kinds.charAt(kind) + "2000");
            for (int of = 1; of < 6; of++) {
                int as = of;
                if (is[kind][of]) {
                    check.due(kind + " is " + of, y.mark(0, of) == FINDING ? 0 : 1, 1);
                } else {
                    check.allFound(y, UNLIKE, () -> y.mark(0, as));
                }
            }
        }
    }

    private static void sun() {
        check.sentence(14, "The SUN of a DAY (0 .. 99).");
        SnowCitizens x = Check.north("z904050605 m2000");
        int[] suns = {9, 0, 4, 0, 5, 0, 6, 0};
        for (int day : new int[] {0, 1, 2, 6, 7, 8, 9, 14, 16, 62, 64, 95, 96, 98, 99}) {
            check.due("DAY " + day, x.sun(day), suns[day % 8]);
        }
        x.day();
        check.due("by its number, not from now", x.sun(0), 9);
        check.sentence(14, "BAD;");
        check.allRefused(x, BAD, () -> x.sun(100), () -> x.sun(-1), () -> x.sun(MIN), () -> x.sun(MAX),
            () -> x.sun(-8));
        check.sentence(14, "STATE: no MEN.");
        SnowCitizens none = new SnowCitizens();
        check.allRefused(none, STATE, () -> none.sun(0), () -> none.sun(99));
        check.allRefused(none, BAD, () -> none.sun(100), () -> none.sun(-1));
    }

    private static void right() {
        check.sentence(15, "The RIGHT is v (1 .. 9): what it was.");
        SnowCitizens x = Check.north("z000000005 m0100 m0500 m0800 m0900");
        int was = 5;
        int[] voters = {0, 4, 3, 3, 3, 3, 2, 2, 2, 1};
        for (int v : new int[] {1, 9, 9, 8, 2, 3, 4, 5, 6, 7, 1}) {
            check.due("RIGHT " + v, x.right(v), was);
            check.due("who has it by " + v, x.votes(0) + x.asked(), voters[v]);
            was = v;
        }
        check.due("no DEED", x.count(3), 0);
        for (int k = 0; k < 60; k++) {
            x.shade(0, 1);
        }
        check.due("nor is one FULL for it", x.right(3), 1);
        check.sentence(15, "BAD;");
        check.allRefused(x, BAD, () -> x.right(0), () -> x.right(10), () -> x.right(-1), () -> x.right(MIN),
            () -> x.right(MAX));
        check.due("it stays", x.count(2), 3);
        check.sentence(15, "STATE: no MEN.");
        SnowCitizens none = new SnowCitizens();
        check.allRefused(none, STATE, () -> none.right(1), () -> none.right(9));
        check.allRefused(none, BAD, () -> none.right(0), () -> none.right(10));
    }
}
