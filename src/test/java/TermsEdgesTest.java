/** The edges that the document's Terms name, sentence by sentence. */
public final class TermsEdgesTest {
    private static final Check check = new Check("TermsEdgesTest");
    private static final int BAD = -1, FULL = -2, FINDING = -3, STATE = -4, NONE = -9;
    private static final int NOTHING = 1, BEYOND = 2, UNLIKE = 3, NOUGHT = 4, SIZE = 5;
    private static final String KINDS = "mhwsli";

    public static void main(String[] args) {
        refusedInOrder();
        refusedBySort();
        refusedOtherwise();
        refusedChangesNothing();
        findings();
        chancesAndSets();
        rowsAndTexts();
        northBlanks();
        northSunAndRight();
        northMen();
        northSigns();
        faults();
        kinds();
        melting();
        meltingOfKinds();
        gone();
        right();
        votes();
        carried();
        daysAndDeeds();
        cloudsAndLots();
        heads();
        aLife();
        check.endOf(0, 0);
    }

    private static SnowCitizens full(String text) {
        SnowCitizens x = Check.north(text);
        for (int k = 0; k < 60; k++) {
            x.shade(0, k % 10);
        }
        return x;
    }

    // ---- ANSWERS

    private static void refusedInOrder() {
        check.sentence(0, "ANSWERS. Refused is, the first of these that fits, in this order:");
        SnowCitizens none = new SnowCitizens();
        check.allRefused(none, BAD, () -> none.sun(100), () -> none.right(0), () -> none.keep(3),
            () -> none.votes(61), () -> none.carried(2), () -> none.days(61), () -> none.guard(1, 0, 0),
            () -> none.guard(0, 61, 0), () -> none.guard(0, 0, 6), () -> none.bribe(2, 0, 0),
            () -> none.bribe(1, -1, 0), () -> none.bribe(1, 0, 6));
        SnowCitizens other = new SnowCitizens();
        check.allRefused(other, BAD, () -> other.census(6), () -> other.counted(6), () -> other.game(3),
            () -> other.first(0), () -> other.lots(0, 1, 1), () -> other.lots(1, 13, 1), () -> other.lots(1, 1, 0),
            () -> other.row(6, -1), () -> other.text(4, -1), () -> other.copy(0, 0, 6, 0, -1),
            () -> other.fits(0, 0), () -> other.kinds(0, 0));
        check.allRefused(other, STATE, () -> other.counted(0));
        SnowCitizens some = Check.north("z111111115 m2000");
        Check.lay(some, 0, 61, 0, 0);
        Check.lay(some, 1, 9, 9);
        check.allRefused(some, BAD, () -> some.mark(0, 0), () -> some.mark(0, 6), () -> some.mark(1, 1));
        check.allFound(some, NOTHING, () -> some.lay(2, -1, 0), () -> some.at(2, 40), () -> some.put(2, -1, 0));
        check.allFound(some, SIZE, () -> some.fits(0, 0), () -> some.kinds(0, 0), () -> some.counted(1));
        SnowCitizens full = full("z111111115 m2000");
        check.allRefused(full, BAD, () -> full.shade(1, 0), () -> full.shade(0, 10), () -> full.snow(0, 0),
            () -> full.snow(1, 1), () -> full.lots(0, 1, 1), () -> full.lots(21, 1, 1));
    }

    private static void refusedBySort() {
        check.sentence(0, "BAD -1 (a number that is none, or not as told)");
        check.due("BAD", SnowCitizens.BAD, BAD);
        SnowCitizens x = Check.north("z111111115 m2000");
        check.allRefused(x, BAD, () -> x.row(6, 0), () -> x.row(0, 41), () -> x.man(1, 0), () -> x.shade(0, 10),
            () -> x.keep(3), () -> x.bulk(0, 61), () -> x.carried(2), () -> x.count(9));
        check.sentence(0, "FULL -2");
        check.due("FULL", SnowCitizens.FULL, FULL);
        SnowCitizens full = full("z111111115 m2000");
        check.allRefused(full, FULL, full::day, () -> full.shade(0, 1), () -> full.snow(0, 1),
            () -> full.lots(1, 1, 1));
        check.sentence(0, "STATE -4 (not now)");
        check.due("STATE", SnowCitizens.STATE, STATE);
        SnowCitizens none = new SnowCitizens();
        check.allRefused(none, STATE, () -> none.sun(0), () -> none.right(1), none::day, none::now,
            () -> none.keep(0), () -> none.votes(0), () -> none.carried(0), () -> none.days(0), none::widow);
        SnowCitizens more = new SnowCitizens();
        check.allRefused(more, STATE, () -> more.guard(0, 0, 0), () -> more.bribe(0, 0, 0), () -> more.census(0),
            () -> more.counted(0), () -> more.game(0), () -> more.first(1), () -> more.lots(1, 0, 1));
        check.sentence(0, "SPENT -6 (more than told)");
        check.due("SPENT", SnowCitizens.SPENT, -6);
        check.sentence(0, "FINDING -3 (finding() tells which)");
        check.due("FINDING", SnowCitizens.FINDING, FINDING);
        check.due("a FINDING", none.tear(0), FINDING);
        check.due("which", none.finding(), NOTHING);
    }

    private static void refusedOtherwise() {
        check.sentence(0, "unless a call says so otherwise.");
        // FULL stands ahead of STATE, but snow() says that it is last.
        SnowCitizens x = Check.north("z999999995 m0900");
        for (int k = 0; k < 60; k++) {
            x.day();
        }
        check.allRefused(x, STATE, () -> x.snow(0, 1));
        // STATE stands ahead of a FINDING, but north() says that it is behind.
        SnowCitizens none = new SnowCitizens();
        check.allFound(none, NOTHING, () -> none.north(0));
        check.sentence(0, "NONE -9 (as an answer: a ROW that would come anew stays).");
        check.due("NONE", SnowCitizens.NONE, NONE);
        SnowCitizens y = Check.north("z999999995 s0100 m0500");
        Check.lay(y, 0, 4, 5, 6);
        check.allRefused(y, NONE, () -> y.guard(1, 1, 0), () -> y.guard(3, 1, 0), () -> y.bribe(1, 2, 0));
        check.row("the ROW", y, 0, 4, 5, 6);
        check.allRefused(y, NONE, () -> y.guard(1, 1, 5), () -> y.bribe(1, 2, 5));
        check.allFound(y, NOTHING, () -> y.at(5, 0));
    }

    /** Of two objects alike one is asked for much that is refused; what both answer behind that is alike. */
    private static void refusedChangesNothing() {
        check.sentence(0, "What is refused changes nothing but finding(), findings().");
        SnowCitizens x = aLongPast();
        SnowCitizens y = aLongPast();
        check.allRefused(x, FULL, x::day, () -> x.shade(1, 9), () -> x.snow(1, 9), () -> x.lots(1, 0, 1));
        check.allRefused(x, BAD, () -> x.undo(61), () -> x.undo(-1), () -> x.right(10), () -> x.on(3),
            () -> x.odds(2, 0, 0));
        check.allFound(x, NOTHING, () -> x.on(1), () -> x.north(3));
        check.allFound(x, SIZE, () -> x.row(0, -1), () -> x.text(0, -1));
        check.allRefused(x, STATE, () -> x.north(1));
        for (int n = 60; n >= 0; n -= 6) {
            check.due("undo " + n, x.undo(n), y.undo(n));
            check.due("digest behind undo " + n, x.digest(), y.digest());
        }
        check.due("on", x.on(2), y.on(2));
        check.due("undo behind on", x.undo(1), y.undo(1));
        check.due("digest behind on", x.digest(), y.digest());
        SnowCitizens bad = new SnowCitizens();
        bad.tear(0);
        bad.man(0, 0);
        bad.now();
        check.due("finding() by refusals that are none", bad.finding(), NOTHING);
        check.due("findings() by refusals that are none", bad.findings(NOTHING), 1);
    }

    private static SnowCitizens aLongPast() {
        SnowCitizens x = Check.north("z212121215 m9900 h6010");
        Check.write(x, 1, "z");
        Check.lay(x, 0, 7, 8, 9);
        x.odds(0, 2, 5);
        for (int k = 0; k < 20; k++) {
            x.shade(0, k % 10);
            x.snow(1, 1 + k % 9);
            x.day();
            if (k == 0) {
                x.keep(2);
            }
        }
        return x;
    }

    private static void findings() {
        SnowCitizens x = Check.north("z111111115 m2000");
        check.sentence(0, "FINDINGS: 1 NOTHING (a ROW, a TEXT, a kept NORTH that is missing)");
        check.allFound(x, NOTHING, () -> x.at(0, 0), () -> x.fault(1), () -> x.on(0));
        check.sentence(0, "2 BEYOND (a place of a ROW, a TEXT that there is not)");
        x.row(0, 0);
        x.row(1, 40);
        check.allFound(x, BEYOND, () -> x.at(0, 0), () -> x.at(1, 40), () -> x.at(1, -1), () -> x.put(0, 16, 0),
            () -> x.put(0, -1, 0));
        check.sentence(0, "3 UNLIKE (a MAN of another KIND; a number that is none)");
        Check.lay(x, 2, 1);
        Check.lay(x, 3, 61, 0);
        check.allFound(x, UNLIKE, () -> x.mark(0, 1), () -> x.counted(2), () -> x.fits(0, 3), () -> x.kinds(0, 3));
        SnowCitizens y = Check.north("z111111115 m2000");
        y.row(0, 0);
        check.sentence(0, "4 NOUGHT (shared among none)");
        check.allFound(y, NOUGHT, () -> y.mean(0));
        check.sentence(0, "5 SIZE (fewer than none; not as many as due).");
        y.row(1, 3);
        check.allFound(y, SIZE, () -> y.row(2, -1), () -> y.text(2, -1), () -> y.copy(0, 0, 0, 0, -1),
            () -> y.counted(0), () -> y.fits(0, 1), () -> y.kinds(0, 1));
    }

    private static void chancesAndSets() {
        check.sentence(0, "Chances are told by upper(), lower(), in lowest terms,");
        SnowCitizens x = Check.north("z111111115 m0200 m1000");
        x.odds(0, 2, 6);
        check.due("3 by 4, not 108 by 144", x.upper() * 1000 + x.lower(), 3004);
        x.mid(1, 1, 4);
        check.due("28 by 3, not 112 by 12", x.upper() * 1000 + x.lower(), 28003);
        x.odds(1, 8, 3);
        check.due("1 by 1", x.upper() * 1000 + x.lower(), 1001);
        check.sentence(0, "the lower number above 0 (0 by 1).");
        x.odds(0, 8, 0);
        check.due("0 by 1", x.upper() * 1000 + x.lower(), 1);
        x.odds(0, 2, 6);
        x.mid(0, 8, 0);
        check.due("0 by 1, the mean, too", x.upper() * 1000 + x.lower(), 1);
        check.sentence(0, "Sets (of MEN, of KINDS) are told by bits.");
        SnowCitizens y = Check.north("z900000005 m5000 m0100 m0100 m5000 m0100 m5000");
        y.day();
        check.told("MEN", y, y.now(), 1, 1 + 8 + 32);
        Check.lay(y, 0, 8, 41);
        check.due("the KIND that MELTS by nothing on DAYS 1 .. 8", y.kinds(0, 0), 32);
        Check.lay(y, 0, 7, 41);
        check.due("KINDS", y.kinds(0, 0), 1 + 2 + 4 + 16 + 32);
        Check.lay(y, 0, 7, 34);
        check.due("the SUNNY KIND", y.kinds(0, 0), 8);
    }

    // ---- 1 rows, texts, norths

    private static void rowsAndTexts() {
        check.sentence(0, "======== 1 ROWS 0 .. 5 are rows of 0 to 40 ints,");
        SnowCitizens x = new SnowCitizens();
        for (int r = -2; r <= 7; r++) {
            for (int n : new int[] {-1, 0, 1, 40, 41}) {
                check.due("row " + r + " " + n, x.row(r, n), r < 0 || r > 5 || n > 40 ? BAD : n < 0 ? FINDING : n);
            }
        }
        check.due("an int", x.lay(5, 39, Integer.MIN_VALUE), 1);
        check.told("an int as it is", x, x.at(5, 39), 1, Integer.MIN_VALUE);
        check.sentence(0, "TEXTS 0 .. 3 rows of 0 to 60 bytes,");
        for (int t = -2; t <= 5; t++) {
            for (int n : new int[] {-1, 0, 1, 60, 61}) {
                check.due("text " + t + " " + n, x.text(t, n), t < 0 || t > 3 || n > 60 ? BAD : n < 0 ? FINDING : n);
            }
        }
        x.put(3, 59, 200);
        check.due("a byte", x.put(3, 59, 0), 1000 - 56);
        check.sentence(0, "or missing (at first).");
        SnowCitizens y = new SnowCitizens();
        for (int r = 0; r < 6; r++) {
            int of = r;
            check.allFound(y, NOTHING, () -> y.tear(of));
        }
        for (int t = 0; t < 4; t++) {
            int of = t;
            check.allFound(y, NOTHING, () -> y.fault(of));
        }
        check.due("a ROW of none is not missing", y.row(0, 0) + y.tear(0), 1);
        y.text(0, 0);
        check.due("a TEXT of none is not missing", y.fault(0), 0);
    }

    private static void faultIs(String text, int want) {
        SnowCitizens x = Check.text(text);
        check.due("fault of '" + text + "'", x.fault(0), want);
        check.due("north by '" + text + "'", x.north(0) < 0 ? STATE : 0, want == NONE ? 0 : STATE);
    }

    private static void northBlanks() {
        check.sentence(0, "A NORTH (without MEN at first) is a TEXT:");
        SnowCitizens x = Check.text("z123456789m0100");
        check.due("no MEN at first", x.count(0), 0);
        check.due("MEN by a TEXT", x.north(0), 1);
        check.sentence(0, "blanks (32) ahead, between, behind as many as wanted,");
        String blanks = " ".repeat(45);
        faultIs("z123456789m0100", NONE);
        faultIs(blanks + "z123456789m0100", NONE);
        faultIs("z123456789" + blanks + "m0100", NONE);
        faultIs("z123456789m0100" + blanks, NONE);
        faultIs(" z123456789 m0100 h0100 ", NONE);
        faultIs("  z123456789m0100   h0100w0100", NONE);
        check.sentence(0, "none within items (an item: a letter and all its figures).");
        String items = "z123456789m0100h0200";
        for (int place = 1; place < items.length(); place++) {
            boolean between = place == 10 || place == 15;
            faultIs(items.substring(0, place) + " " + items.substring(place), between ? NONE : place);
        }
    }

    private static void northSunAndRight() {
        check.sentence(0, "First z (122),");
        faultIs("m0100z123456789", 0);
        faultIs("123456789m0100", 0);
        faultIs("zz123456789m0100", 1);
        faultIs("z123456789m0100z123456789", 15);
        check.sentence(0, "the SUN (8 figures 0 .. 9; of DAY d that at d modulo 8),");
        faultIs("z000000001m0100", NONE);
        faultIs("z999999991m0100", NONE);
        faultIs("z12345671m0100", 9);
        SnowCitizens x = Check.north("z902468131m9990");
        int[] suns = {9, 0, 2, 4, 6, 8, 1, 3};
        for (int day = 0; day <= 99; day++) {
            check.due("DAY " + day, x.sun(day), suns[day % 8]);
        }
        int size = 99;
        x.shade(0, 0);
        for (int day = 0; day < 17; day++) {
            size = Math.max(0, size - suns[day % 8]);
            x.day();
            check.due("behind DAY " + day, x.bulk(0, 0), size);
        }
        check.sentence(0, "the RIGHT (1 .. 9, one figure).");
        for (int v = 0; v <= 9; v++) {
            faultIs("z12345678" + v + "m0100", v == 0 ? 9 : NONE);
            SnowCitizens y = Check.text("z12345678" + v + "m0100");
            y.north(0);
            check.due("the RIGHT " + v, y.count(2), v);
        }
        faultIs("z1234567899m0100", 10);
    }

    private static void northMen() {
        check.sentence(0, "Then MEN (1 to 6; 0, 1, .. from the west to the east):");
        faultIs("z123456789", 10);
        StringBuilder text = new StringBuilder("z123456789");
        for (int men = 1; men <= 7; men++) {
            text.append("m0").append(men).append("00");
            faultIs(text.toString(), men > 6 ? 40 : NONE);
            SnowCitizens x = Check.text(text.toString());
            check.due(men + " MEN", x.north(0), men > 6 ? STATE : men);
            for (int i = 0; i < men && men <= 6; i++) {
                check.told("MAN " + i, x, x.man(i, 1), 1, i + 1);
            }
        }
        check.sentence(0, "a letter, the BULK (two figures, 01 .. 99),");
        for (int size = 0; size <= 99; size++) {
            String figures = "" + size / 10 + size % 10;
            faultIs("z123456789m" + figures + "00", size == 0 ? 12 : NONE);
            SnowCitizens x = Check.text("z123456789m" + figures + "00");
            check.due("BULK " + size, x.north(0) > 0 ? x.bulk(0, 0) : 0, size);
        }
        check.sentence(0, "the SHADE (0 .. 9), the VOTE (0, 1), one figure each.");
        for (int figure = 0; figure <= 9; figure++) {
            faultIs("z123456789m01" + figure + "0", NONE);
            SnowCitizens x = Check.north("z123456789m01" + figure + "0");
            check.told("SHADE " + figure, x, x.man(0, 2), 1, figure);
            faultIs("z123456789m010" + figure, figure > 1 ? 14 : NONE);
        }
        for (int vote = 0; vote <= 1; vote++) {
            SnowCitizens x = Check.north("z123456789m010" + vote);
            check.told("VOTE " + vote, x, x.man(0, 3), 1, vote);
        }
        faultIs("z123456789m01000", 15);
        faultIs("z123456789m010", 14);
    }

    /** Each byte at each place of a TEXT with a blank ahead, between and behind. */
    private static void northSigns() {
        check.sentence(0, "A FAULT is the first place at which it can't go on so"
            + " (a letter, a figure that is none such, the second figure of 00, a seventh one: its place;");
        String text = " z123456789 m0100 ";
        String figures = "0123456789";
        String[] fine = {" z", " z", figures, figures, figures, figures, figures, figures, figures, figures,
            "123456789", " mhwsli", " mhwsli", figures, "123456789", figures, "01", " mhwsli"};
        for (int place = 0; place < text.length(); place++) {
            for (int begin = -128; begin < 128; begin += 64) {
                SnowCitizens x = Check.text(text);
                for (int sign = begin; sign < begin + 64; sign++) {
                    x.put(0, place, sign);
                    int want = fine[place].indexOf((char) sign) < 0 ? place : NONE;
                    check.due(sign + " at place " + place, x.fault(0), want == NONE ? behind(place, sign) : want);
                }
            }
        }
        // A sign within a TEXT that is wrong twice, or thrice: the first place alone is told.
        faultIs("z12x45678xm0100", 3);
        faultIs("z123456789m0000h0000", 12);
        faultIs("z123456789m0100m0100m0100m0100m0100m0100m0000m", 40);
        faultIs("z123456789m0100m0100m0100m0100m0100m0100    l", 44);
        faultIs("z123456789m0100m0100m0100m0100m0100m0100 0", 41);
    }

    /** The FAULT by a sign that fits its place: a letter for a blank, or a blank for a letter, ends one further on. */
    private static int behind(int place, int sign) {
        boolean blankDue = place == 0 || place == 11 || place == 17;
        boolean letterDue = place == 1 || place == 12;
        return blankDue && sign != ' ' || letterDue && sign == ' ' ? place + 1 : NONE;
    }

    private static void faults() {
        check.sentence(0, "the TEXT's size, if its end comes too early, or there are blanks alone).");
        String whole = " z123456789 m0100 h0100";
        for (int size = 0; size < whole.length(); size++) {
            boolean ended = size == 17 || size == 18;
            faultIs(whole.substring(0, size), ended ? NONE : size);
        }
        for (int size = 0; size <= 60; size++) {
            SnowCitizens x = new SnowCitizens();
            x.text(0, size);
            check.due(size + " blanks", x.fault(0), size);
        }
        faultIs("z123456789" + " ".repeat(50), 60);
        faultIs(" ".repeat(49) + "z123456789m", 60);
    }

    private static void kinds() {
        check.sentence(0, "KINDS of MEN and letters: 0 MAN (m, 109), 1 HATTED (h, 104; a MAN), 2 WED (w, 119; a MAN),"
            + " 3 SUNNY (s, 115; a MAN), 4 LAWYER (l, 108; a HATTED), 5 ICED (i, 105; a HATTED).");
        int[] letters = {109, 104, 119, 115, 108, 105};
        int[] is = {0, 1 << 1, 1 << 2, 1 << 3, 1 << 1 | 1 << 4, 1 << 1 | 1 << 5};
        for (int kind = 0; kind < 6; kind++) {
            SnowCitizens x = Check.text("z111111115m2000");
            x.put(0, 10, letters[kind]);
            check.due("letter " + letters[kind], x.north(0), 1);
            check.told("KIND " + kind, x, x.man(0, 0), 1, kind);
            for (int of = 1; of < 6; of++) {
                boolean unlike = x.mark(0, of) == FINDING;
                check.due("KIND " + kind + " is a " + of, unlike ? 0 : 1, is[kind] >> of & 1);
            }
            check.due("HATTED ones of KIND " + kind, x.count(5), is[kind] >> 1 & 1);
        }
    }

    // ---- how a MAN MELTS

    /** By how much one MELTS on DAY 0, and on DAY 1, of the same SUN. */
    private static void melts(char letter, int sun, int shade, int onEven, int onOdd) {
        SnowCitizens x = Check.north("z" + sun + sun + "0000005 " + letter + "50" + shade + "0");
        String label = letter + " by SUN " + sun + ", SHADE " + shade;
        check.due(label + ", DAY 0", 50 - x.bulk(0, 1), onEven);
        x.day();
        check.due(label + ", DAY 0 passed", 50 - x.bulk(0, 0), onEven);
        check.due(label + ", DAY 1", 50 - x.bulk(0, 1), onEven + onOdd);
        x.day();
        check.due(label + ", DAY 1 passed", 50 - x.bulk(0, 0), onEven + onOdd);
    }

    private static void melting() {
        check.sentence(0, "On a DAY a MAN MELTS by the SUN of that DAY less its SHADE, 0 at least;");
        for (int sun = 0; sun <= 9; sun++) {
            for (int shade = 0; shade <= 9; shade++) {
                int by = sun > shade ? sun - shade : 0;
                melts('m', sun, shade, by, by);
            }
        }
        check.sentence(0, "a HATTED one (LAWYER, ICED, too) by 1 less, 0 at least;");
        for (int sun = 0; sun <= 9; sun++) {
            for (int shade = 0; shade <= 9; shade++) {
                int by = sun > shade + 1 ? sun - shade - 1 : 0;
                melts('h', sun, shade, by, by);
                melts('l', sun, shade, by, by);
            }
        }
    }

    private static void meltingOfKinds() {
        check.sentence(0, "an ICED one on DAYS of even number not;");
        for (int sun = 0; sun <= 9; sun++) {
            melts('i', sun, 0, 0, sun > 1 ? sun - 1 : 0);
            melts('i', sun, 3, 0, sun > 4 ? sun - 4 : 0);
        }
        SnowCitizens x = Check.north("z222222225 i5000");
        for (int day = 0; day < 20; day++) {
            check.due("DAY " + day, x.bulk(0, 0), 50 - day / 2);
            check.due("DAY " + day + " foretold", x.bulk(0, 1), 50 - (day + 1) / 2);
            x.day();
        }
        check.sentence(0, "a WED one by half (cut);");
        for (int sun = 0; sun <= 9; sun++) {
            for (int shade = 0; shade <= 9; shade++) {
                int by = sun > shade ? (sun - shade) / 2 : 0;
                melts('w', sun, shade, by, by);
            }
        }
        // Cut on each DAY, not of all DAYS together.
        check.due("1 on each DAY", Check.north("z111111115 w5000").bulk(0, 60), 50);
        check.due("3 on each DAY", Check.north("z333333335 w5000").bulk(0, 8), 42);
        check.sentence(0, "a SUNNY one by 1 more.");
        for (int sun = 0; sun <= 9; sun++) {
            for (int shade = 0; shade <= 9; shade++) {
                int by = sun > shade ? sun - shade + 1 : 1;
                melts('s', sun, shade, by, by);
            }
        }
    }

    private static void gone() {
        check.sentence(0, "Its BULK is less by that, 0 at least;");
        SnowCitizens x = Check.north("z555555551 m0400 m0500 m0600 s0500 s0600 s0700");
        int[] then = {0, 0, 1, 0, 0, 1};
        for (int i = 0; i < 6; i++) {
            check.due("foretold of " + i, x.bulk(i, 1), then[i]);
        }
        check.due("not GONE", x.day(), 2);
        for (int i = 0; i < 6; i++) {
            check.due("of " + i, x.bulk(i, 0), then[i]);
        }
        check.sentence(0, "who has none is GONE, for good.");
        check.told("not GONE (bits)", x, x.now(), 1, 4 + 32);
        for (int i = 0; i < 6; i++) {
            int of = i;
            check.due("GONE in 0 DAYS, or 1: " + i, x.gone(i), then[i]);
            x.shade(i, 9);
            if (then[i] == 0) {
                check.allRefused(x, STATE, () -> x.snow(of, 9));
            }
        }
        x.day();
        x.lots(3, 12, 1);
        check.told("still GONE, and the SUNNY one", x, x.now(), 5, 4);
        check.due("no BULK comes back", x.bulk(0, 0) + x.bulk(0, 60), 0);
    }

    // ---- 2 the RIGHT, the vote

    private static void right() {
        check.sentence(0, "======== 2 A MAN has the RIGHT to vote, if its BULK is no less than the RIGHT;");
        for (char letter : "mhwsi".toCharArray()) {
            for (int v = 1; v <= 9; v++) {
                SnowCitizens x = Check.north("z11111111" + v + letter + "0" + v + "00");
                check.told(letter + " as much as " + v, x, x.man(0, 4), 1, 1);
                x.right(v == 9 ? 9 : v + 1);
                check.told(letter + " less than 1 more", x, x.man(0, 4), 1, v == 9 ? 1 : 0);
            }
        }
        SnowCitizens gone = Check.north("z900000001 m0900");
        gone.day();
        check.told("GONE, by the least RIGHT", gone, gone.man(0, 4), 1, 0);
        check.sentence(0, "a LAWYER, if it is not GONE.");
        SnowCitizens lawyer = Check.north("z090000009 l0100 l0800");
        check.told("a LAWYER of 1 by 9", lawyer, lawyer.man(0, 4), 1, 1);
        check.told("both vote", lawyer, lawyer.votes(0), 0, 2);
        lawyer.day();
        lawyer.day();
        check.told("a LAWYER that is GONE", lawyer, lawyer.man(0, 4), 1, 0);
        lawyer.right(1);
        check.told("by the least RIGHT, too", lawyer, lawyer.man(1, 4), 1, 0);
        check.told("none votes", lawyer, lawyer.votes(0), 0, 0);
    }

    private static void voteIs(SnowCitizens x, int i, int want) {
        check.told("vote of " + i, x, x.man(i, 5), 1, want);
    }

    private static void votes() {
        check.sentence(0, "Who has it votes by its VOTE;");
        SnowCitizens x = Check.north("z000000005 m0500 m0501 m0401 l0101 h0500 i0501");
        int[] want = {0, 1, NONE, 1, 0, 1};
        for (int i = 0; i < 6; i++) {
            voteIs(x, i, want[i]);
        }
        check.told("all votes", x, x.votes(0), 3, 2);
        check.sentence(0, "a SUNNY one always 1;");
        SnowCitizens sunny = Check.north("z000000005 s0500 s0501 s0401");
        voteIs(sunny, 0, 1);
        voteIs(sunny, 1, 1);
        voteIs(sunny, 2, NONE);
        check.told("its own VOTE is 0", sunny, sunny.man(0, 3), 1, 0);
        check.told("votes of SUNNY ones", sunny, sunny.votes(0), 2, 0);
        check.sentence(0, "a WED one as the next one to the west (by what that one votes), if that has the RIGHT.");
        SnowCitizens wed = Check.north("z000000005 w0501 w0500 s0500 w0500 m0401 w0501");
        int[] as = {1, 1, 1, 1, NONE, 1};
        for (int i = 0; i < 6; i++) {
            voteIs(wed, i, as[i]);
        }
        SnowCitizens chain = Check.north("z000000005 m0500 w0501 w0501 w0401 w0501 w0500");
        int[] along = {0, 0, 0, NONE, 1, 1};
        for (int i = 0; i < 6; i++) {
            voteIs(chain, i, along[i]);
        }
        check.told("along the chain", chain, chain.votes(0), 2, 3);
    }

    private static void carried() {
        check.sentence(0, "A motion is CARRIED, if more vote 1 than 0.");
        int[] men = {0, 1, 0, 0, 1, 1};
        String[] texts = {"m0500", "m0501", "m0501m0500", "m0501m0500m0500m0501", "m0501m0500m0501", "m0501m0400"};
        for (int k = 0; k < men.length; k++) {
            SnowCitizens x = Check.north("z000000005" + texts[k]);
            check.due("CARRIED now by " + texts[k], x.days(0), men[k]);
            check.due("game by " + texts[k], x.game(0), men[k]);
            check.due("first by " + texts[k], x.carried(men[k]), 0);
            check.due("never else by " + texts[k], x.carried(1 - men[k]), NONE);
        }
        SnowCitizens none = Check.north("z000000009 m0801");
        check.due("nobody votes", none.days(60), 0);
    }

    // ---- DAYS and DEEDS

    private static void daysAndDeeds() {
        check.sentence(0, "DAYS are 0, 1, ..");
        SnowCitizens x = Check.north("z123450005 m5000");
        for (int day = 0; day <= 60; day++) {
            check.due("DAY " + day, x.now(), day);
            check.due("counted DAY " + day, x.count(1), day);
            x.day();
        }
        check.sentence(0, "What is told of n DAYS from now is ahead of that DAY's melting,"
            + " nothing else being done (n 0: now).");
        SnowCitizens y = Check.north("z123450005 m1000 m0500");
        int[] sizes = {10, 9, 7, 4, 0};
        for (int n = 0; n < sizes.length; n++) {
            check.due(n + " DAYS from now", y.bulk(0, n), sizes[n]);
        }
        check.told("the vote now is ahead of the SUN", y, y.votes(0), 0, 2);
        check.told("the vote on the next DAY", y, y.votes(1), 0, 1);
        y.day();
        y.day();
        check.due("now", y.bulk(0, 0), 7);
        check.due("1 DAY from now", y.bulk(0, 1), 4);
        check.sentence(0, "What is done: a DAY passes (all MELT); SHADE is let; SNOW is carried.");
        check.due("a DAY, all MELT", y.day() * 1000 + y.bulk(0, 0) * 10 + y.bulk(1, 0), 1040);
        check.due("SHADE, no DAY", y.shade(0, 4) + y.count(1), 3);
        check.due("SNOW, no DAY", y.snow(0, 2) + y.count(1), 6 + 3);
        check.sentence(0, "These are DEEDS 0, 1, .. (60 at most).");
        check.due("DEEDS", y.count(3), 5);
        check.due("DEED 4 is the SNOW", y.undo(4) * 10 + y.bulk(0, 0), 14);
        check.due("DEED 3 is the SHADE", y.undo(3) * 10 + y.shade(0, 1), 10);
        SnowCitizens many = Check.north("z000000005 m5000");
        for (int k = 0; k < 60; k++) {
            many.snow(0, 1);
            check.due("the DEEDS by " + k, many.count(3), k + 1);
        }
        check.allRefused(many, FULL, many::day, () -> many.snow(0, 1), () -> many.shade(0, 0));
        check.due("what is told is no DEED", many.votes(60) + many.right(4) + many.count(3), 65);
    }

    // ---- 3 CLOUDS, LOTS

    private static void cloudsAndLots() {
        check.sentence(0, "======== 3 By CLOUDS: on each DAY, by p of 12, nobody MELTS.");
        SnowCitizens x = Check.north("z999999995 m0900 s0900");
        for (int p = 0; p <= 12; p++) {
            x.odds(0, 1, p);
            check.due("not GONE by p " + p, x.upper() * 12 / x.lower(), p);
            x.odds(1, 2, p);
            check.due("a SUNNY one by p " + p, x.upper() * 144 / x.lower(), p * p);
        }
        check.sentence(0, "LOTS: a number comes from the one ahead by 48271 times it modulo 2147483647,"
            + " the first from a seed (1 .. 2147483646).");
        // 48271 times the last seed is 2147483647 less 48271: modulo 12 that is 0.
        SnowCitizens y = Check.north("z111111115 m9900");
        check.due("the first from the last seed: clouds by 1", y.lots(1, 1, 2147483646) * 100 + y.bulk(0, 0), 199);
        check.due("no clouds by 0", y.lots(1, 0, 2147483646) * 100 + y.bulk(0, 0), 198);
        // From seed 1: 48271, 182605794, 1291394886, 1914720637, 2078669041, 407355683: modulo 12 7, 6, 6, 1, 1, 11.
        int[] rest = {7, 6, 6, 1, 1, 11};
        for (int p = 0; p <= 12; p++) {
            SnowCitizens lots = Check.north("z111111115 m9900");
            int size = 99;
            for (int n = 1; n <= 6; n++) {
                size -= rest[n - 1] < p ? 0 : 1;
                lots.undo(0);
                lots.lots(n, p, 1);
                check.due(n + " LOTS by p " + p, lots.bulk(0, 0), size);
            }
        }
        check.allRefused(y, BAD, () -> y.lots(1, 0, 0), () -> y.lots(1, 0, 2147483647),
            () -> y.lots(1, 0, Integer.MIN_VALUE));
    }

    // ---- what the interface says ahead of calls

    private static void heads() {
        SnowCitizens x = Check.north("z111111115 m6000 m2031");
        check.sentence(0, "1 rows, texts, norths. 2 deeds. 3 foretold (n 0 .. 60 DAYS from now).");
        check.allRefused(x, BAD, () -> x.bulk(0, 61), () -> x.bulk(0, -1), () -> x.votes(61), () -> x.votes(-1),
            () -> x.days(61), () -> x.days(-1), () -> x.heir(0, 61), () -> x.heir(0, -1));
        check.due("60 DAYS from now", x.bulk(0, 60) + x.votes(60) + x.asked() + x.heir(0, 60), 2);
        check.due("on the last 5 of 61 DAYS", x.days(60), 5);
        check.sentence(0, "4 the least shade (SHADE 0 .. 9 of each; as if let now).");
        SnowCitizens y = Check.north("z999999998 m0800 m0891");
        check.due("up to 9", y.guard(1, 60, 0), 9);
        check.row("9", y, 0, 9, 9);
        check.due("down to none", y.bribe(1, 1, 0), 0);
        y.shade(0, 9);
        check.due("out by 8", y.bribe(1, 1, 0), 1);
        check.row("8, 9", y, 0, 8, 9);
        check.told("nothing is let", y, y.man(0, 2), 1, 9);
        check.due("no DEED", y.count(3), 1);
        check.sentence(0, "5 the census. 6 what was seen. 7 by turns. 8 clouds, lots. 9 what is told.");
        check.due("the census", y.census(0), 2);
    }

    /** The whole life that is promised: 512 calls. */
    private static void aLife() {
        SnowCitizens x = new SnowCitizens();
        for (int k = 0; k < 510; k++) {
            check.due("call " + k, x.tear(5), FINDING);
        }
        check.due("call 510", x.findings(NOTHING), 510);
        check.due("call 511", x.finding(), NOTHING);
    }
}
