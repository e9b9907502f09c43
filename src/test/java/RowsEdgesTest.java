/** The edges that promises 1 to 9 name, sentence by sentence. */
public final class RowsEdgesTest {
    private static final Check check = new Check("RowsEdgesTest");
    private static final int BAD = -1, FINDING = -3, STATE = -4;
    private static final int NOTHING = 1, BEYOND = 2, NOUGHT = 4, SIZE = 5;
    private static final int MIN = Integer.MIN_VALUE, MAX = Integer.MAX_VALUE;

    public static void main(String[] args) {
        newObject();
        row();
        lay();
        at();
        tear();
        copy();
        copyWithin();
        copyWithinAll();
        copyRefused();
        mean();
        text();
        put();
        check.endOf(1, 9);
    }

    private static void newObject() {
        check.sentence(1, "No ROWS, TEXTS, MEN.");
        SnowCitizens x = new SnowCitizens();
        for (int what = 0; what <= 8; what++) {
            check.due("count " + what, x.count(what), 0);
        }
        check.allFound(x, NOTHING, () -> x.tear(0), () -> x.tear(5), () -> x.fault(0), () -> x.fault(3));
        SnowCitizens y = new SnowCitizens();
        check.allFound(y, NOTHING, () -> y.mean(3), () -> y.north(2), () -> y.on(0), () -> y.on(2));
        check.allRefused(y, BAD, () -> y.man(0, 0), () -> y.gone(0), () -> y.carry(0, 0), () -> y.odds(0, 0, 0),
            () -> y.mid(0, 0, 0), () -> y.heir(0, 0), () -> y.shade(0, 0), () -> y.snow(0, 1), () -> y.mark(0, 1));
        check.allRefused(y, STATE, y::day, y::now);
        check.due("one object's ROW is not another's", x.row(0, 4) + y.count(6), 4);
    }

    private static void row() {
        check.sentence(2, "A ROW is there with n ints 0: n.");
        SnowCitizens x = new SnowCitizens();
        check.due("none", x.row(0, 0), 0);
        check.row("none", x, 0);
        check.due("one", x.row(5, 1), 1);
        check.row("one", x, 5, 0);
        check.due("40", x.row(3, 40), 40);
        check.due("they are there", x.count(6), 3);
        check.row("40", x, 3, new int[40]);
        for (int i = 0; i < 40; i++) {
            x.lay(3, i, -1 - i);
        }
        check.due("shorter, anew", x.row(3, 2), 2);
        check.row("shorter, anew", x, 3, 0, 0);
        check.due("longer, anew", x.row(3, 40), 40);
        check.row("longer, anew", x, 3, new int[40]);
        check.due("anew is no ROW more", x.count(6), 3);
        check.sentence(2, "BAD: also n above 40;");
        SnowCitizens y = new SnowCitizens();
        Check.lay(y, 0, 7);
        check.allRefused(y, BAD, () -> y.row(0, 41), () -> y.row(0, MAX), () -> y.row(1, 41), () -> y.row(-1, 0),
            () -> y.row(6, 0), () -> y.row(MIN, 0), () -> y.row(MAX, 0), () -> y.row(6, -1), () -> y.row(-1, 41));
        check.row("the ROW stays", y, 0, 7);
        check.sentence(2, "SIZE: below 0.");
        SnowCitizens z = new SnowCitizens();
        Check.lay(z, 0, 7);
        check.allFound(z, SIZE, () -> z.row(0, -1), () -> z.row(0, MIN), () -> z.row(5, -1));
        check.row("the ROW stays, too", z, 0, 7);
        check.allFound(z, NOTHING, () -> z.tear(5));
    }

    private static void lay() {
        check.sentence(3, "Place i of a ROW is v: what it was, told by asked(): 1.");
        SnowCitizens x = new SnowCitizens();
        x.row(5, 40);
        check.told("the first place", x, x.lay(5, 0, MIN), 1, 0);
        check.told("the last place", x, x.lay(5, 39, MAX), 1, 0);
        check.told("the first again", x, x.lay(5, 0, -1), 1, MIN);
        check.told("the last again", x, x.lay(5, 39, 0), 1, MAX);
        check.told("as it is", x, x.lay(5, 0, -1), 1, -1);
        check.told("just that place", x, x.at(5, 1), 1, 0);
        check.sentence(3, "BAD;");
        SnowCitizens y = new SnowCitizens();
        Check.lay(y, 0, 7, 8);
        check.allRefused(y, BAD, () -> y.lay(6, 0, 1), () -> y.lay(-1, 0, 1), () -> y.lay(MIN, 0, 1),
            () -> y.lay(MAX, 0, 1), () -> y.lay(6, -1, 1));
        check.sentence(3, "NOTHING;");
        check.allFound(y, NOTHING, () -> y.lay(1, 0, 1), () -> y.lay(5, -1, 1), () -> y.lay(5, 40, 1));
        check.sentence(3, "BEYOND.");
        check.allFound(y, BEYOND, () -> y.lay(0, 2, 1), () -> y.lay(0, -1, 1), () -> y.lay(0, 40, 1),
            () -> y.lay(0, MIN, 1), () -> y.lay(0, MAX, 1));
        check.row("the ROW stays", y, 0, 7, 8);
        SnowCitizens none = new SnowCitizens();
        none.row(2, 0);
        check.allFound(none, BEYOND, () -> none.lay(2, 0, 1));
    }

    private static void at() {
        check.sentence(4, "Place i of a ROW, told by asked(): 1.");
        SnowCitizens x = new SnowCitizens();
        x.row(0, 40);
        x.lay(0, 0, MIN);
        x.lay(0, 39, MAX);
        check.told("the first place", x, x.at(0, 0), 1, MIN);
        check.told("the last place", x, x.at(0, 39), 1, MAX);
        check.told("one between", x, x.at(0, 38), 1, 0);
        check.told("it stays", x, x.at(0, 0), 1, MIN);
        check.sentence(4, "BAD;");
        SnowCitizens y = new SnowCitizens();
        Check.lay(y, 0, 7, 8);
        check.allRefused(y, BAD, () -> y.at(6, 0), () -> y.at(-1, 0), () -> y.at(MIN, 0), () -> y.at(MAX, 0),
            () -> y.at(6, 9));
        check.sentence(4, "NOTHING;");
        check.allFound(y, NOTHING, () -> y.at(1, 0), () -> y.at(5, -1), () -> y.at(5, 40));
        check.sentence(4, "BEYOND.");
        check.allFound(y, BEYOND, () -> y.at(0, 2), () -> y.at(0, -1), () -> y.at(0, 40), () -> y.at(0, MIN),
            () -> y.at(0, MAX));
        y.row(0, 1);
        check.allFound(y, BEYOND, () -> y.at(0, 1));
    }

    private static void tear() {
        check.sentence(5, "A ROW is missing: 1.");
        SnowCitizens x = new SnowCitizens();
        for (int r = 0; r < 6; r++) {
            x.row(r, r);
        }
        for (int r = 0; r < 6; r++) {
            check.due("tear " + r, x.tear(r), 1);
            check.due("there are still", x.count(6), 5 - r);
        }
        check.due("there again, of ints 0", x.row(5, 1) + x.at(5, 0) + x.asked(), 2);
        check.sentence(5, "BAD;");
        SnowCitizens y = new SnowCitizens();
        y.row(0, 1);
        check.allRefused(y, BAD, () -> y.tear(6), () -> y.tear(-1), () -> y.tear(MIN), () -> y.tear(MAX));
        check.sentence(5, "NOTHING.");
        check.allFound(y, NOTHING, () -> y.tear(1), () -> y.tear(5));
        y.tear(0);
        check.allFound(y, NOTHING, () -> y.tear(0));
    }

    private static void copy() {
        check.sentence(6, "n places of a ROW, from one on, come to those of another one");
        SnowCitizens x = new SnowCitizens();
        Check.lay(x, 0, 1, 2, 3, 4, 5);
        Check.lay(x, 5, 6, 7, 8);
        check.due("the first to the last", x.copy(0, 0, 5, 2, 1), 1);
        check.row("the first to the last", x, 5, 6, 7, 1);
        check.due("the last to the first", x.copy(0, 4, 5, 0, 1), 1);
        check.row("the last to the first", x, 5, 5, 7, 1);
        check.due("as many as there are", x.copy(0, 2, 5, 0, 3), 1);
        check.row("as many as there are", x, 5, 3, 4, 5);
        check.row("the ROW from which they come stays", x, 0, 1, 2, 3, 4, 5);
        check.due("none at the beginnings", x.copy(0, 0, 5, 0, 0), 1);
        check.due("none at the ends", x.copy(0, 5, 5, 3, 0), 1);
        check.row("none changes nothing", x, 5, 3, 4, 5);
        x.row(1, 0);
        check.due("none of none to none", x.copy(1, 0, 1, 0, 0), 1);
        x.row(2, 40);
        x.row(3, 40);
        for (int i = 0; i < 40; i++) {
            x.lay(2, i, i + 1);
        }
        check.due("all 40", x.copy(2, 0, 3, 0, 40), 1);
        for (int i = 0; i < 40; i++) {
            check.told("place " + i, x, x.at(3, i), 1, i + 1);
        }
    }

    private static void copyWithin() {
        check.sentence(6, "(perhaps itself) from one on, as if taken ahead: 1.");
        for (int from = 0; from <= 5; from++) {
            for (int to = 0; to <= 5; to++) {
                for (int n = 0; n <= 5 - Math.max(from, to); n++) {
                    SnowCitizens x = new SnowCitizens();
                    Check.lay(x, 4, 10, 11, 12, 13, 14);
                    check.due("copy", x.copy(4, from, 4, to, n), 1);
                    for (int i = 0; i < 5; i++) {
                        int want = i >= to && i < to + n ? 10 + from + i - to : 10 + i;
                        check.told(from + " to " + to + ", " + n + ": place " + i, x, x.at(4, i), 1, want);
                    }
                }
            }
        }
    }

    /** The greatest ROW, moved by one place each way. */
    private static void copyWithinAll() {
        check.sentence(6, "(perhaps itself) from one on, as if taken ahead: 1.");
        for (int step = -1; step <= 1; step++) {
            SnowCitizens x = new SnowCitizens();
            x.row(0, 40);
            for (int i = 0; i < 40; i++) {
                x.lay(0, i, 100 + i);
            }
            int n = 40 - Math.abs(step);
            check.due("copy of " + n, x.copy(0, Math.max(0, -step), 0, Math.max(0, step), n), 1);
            for (int i = 0; i < 40; i++) {
                int from = i - step;
                check.told("place " + i, x, x.at(0, i), 1, from < 0 || from > 39 ? 100 + i : 100 + from);
            }
        }
    }

    private static void copyRefused() {
        check.sentence(6, "BAD;");
        SnowCitizens x = new SnowCitizens();
        Check.lay(x, 0, 1, 2, 3);
        Check.lay(x, 1, 4, 5);
        check.allRefused(x, BAD, () -> x.copy(6, 0, 0, 0, 1), () -> x.copy(-1, 0, 0, 0, 1),
            () -> x.copy(0, 0, 6, 0, 1), () -> x.copy(0, 0, -1, 0, 1), () -> x.copy(MIN, 0, 0, 0, 1),
            () -> x.copy(0, 0, MAX, 0, 1));
        check.sentence(6, "SIZE: n below 0;");
        check.allFound(x, SIZE, () -> x.copy(0, 0, 1, 0, -1), () -> x.copy(0, 0, 1, 0, MIN),
            () -> x.copy(0, 3, 0, 3, -1));
        check.sentence(6, "NOTHING: either;");
        check.allFound(x, NOTHING, () -> x.copy(2, 0, 1, 0, 1), () -> x.copy(0, 0, 2, 0, 1),
            () -> x.copy(2, 0, 3, 0, 0), () -> x.copy(2, 0, 2, 0, 0));
        check.sentence(6, "BEYOND: not so many there (with n 0, too, if i or j is below 0 or above the size).");
        for (int i = -1; i <= 4; i++) {
            for (int j = -1; j <= 3; j++) {
                for (int n = 0; n <= 4; n++) {
                    SnowCitizens y = new SnowCitizens();
                    Check.lay(y, 0, 1, 2, 3);
                    Check.lay(y, 1, 4, 5);
                    boolean fine = i >= 0 && j >= 0 && i + n <= 3 && j + n <= 2;
                    check.due("copy of " + n + ", " + i + " to " + j, y.copy(0, i, 1, j, n), fine ? 1 : FINDING);
                    check.due("the finding", y.finding(), fine ? 0 : BEYOND);
                }
            }
        }
        SnowCitizens y = new SnowCitizens();
        Check.lay(y, 0, 1, 2, 3);
        check.allFound(y, BEYOND, () -> y.copy(0, 1, 0, 1, MAX), () -> y.copy(0, MAX, 0, 0, 1),
            () -> y.copy(0, 0, 0, MAX, 1), () -> y.copy(0, MIN, 0, 0, 0), () -> y.copy(0, 0, 0, MIN, MAX),
            () -> y.copy(0, MAX, 0, MAX, MAX), () -> y.copy(0, MAX, 0, 0, 0), () -> y.copy(0, 0, 0, 40, 0));
        check.sentence(6, "(In this order.)");
        SnowCitizens z = new SnowCitizens();
        z.row(0, 3);
        check.allRefused(z, BAD, () -> z.copy(6, 0, 1, 0, -1), () -> z.copy(1, -1, -1, 0, 1));
        check.allFound(z, SIZE, () -> z.copy(1, 0, 2, 0, -1), () -> z.copy(0, -1, 0, 9, -1));
        check.allFound(z, NOTHING, () -> z.copy(1, -1, 0, 0, 1), () -> z.copy(0, 9, 1, 0, 1));
    }

    private static void meanIs(int want, int... cells) {
        SnowCitizens x = new SnowCitizens();
        Check.lay(x, 5, cells);
        check.told("mean", x, x.mean(5), 1, want);
    }

    private static void mean() {
        check.sentence(7, "The mean of a ROW's ints, cut, told by asked(): 1.");
        meanIs(7, 7);
        meanIs(0, 0, 1);
        meanIs(1, 1, 2);
        meanIs(1, 0, 1, 2, 4);
        meanIs(0, 0, -1);
        meanIs(-1, -1, -2);
        meanIs(-1, -5, 0, 0, 0);
        meanIs(MAX, MAX, MAX);
        meanIs(MIN, MIN, MIN, MIN);
        meanIs(0, MIN, MAX);
        meanIs(MIN, MIN);
        int[] most = new int[40];
        java.util.Arrays.fill(most, MAX);
        meanIs(MAX, most);
        java.util.Arrays.fill(most, MIN);
        meanIs(MIN, most);
        check.sentence(7, "BAD;");
        SnowCitizens x = new SnowCitizens();
        Check.lay(x, 0, 7);
        check.allRefused(x, BAD, () -> x.mean(6), () -> x.mean(-1), () -> x.mean(MIN), () -> x.mean(MAX));
        check.sentence(7, "NOTHING;");
        check.allFound(x, NOTHING, () -> x.mean(1), () -> x.mean(5));
        check.sentence(7, "NOUGHT.");
        x.row(1, 0);
        check.allFound(x, NOUGHT, () -> x.mean(1));
    }

    private static void text() {
        check.sentence(8, "A TEXT is there with n blanks: n.");
        SnowCitizens x = new SnowCitizens();
        check.due("none", x.text(0, 0), 0);
        check.due("none: its FAULT", x.fault(0), 0);
        check.due("one", x.text(1, 1), 1);
        check.due("one blank", x.put(1, 0, 122), 1032);
        check.due("60", x.text(3, 60), 60);
        check.due("they are there", x.count(7), 3);
        for (int i = 0; i < 60; i++) {
            check.due("blank " + i, x.put(3, i, 122), 1032);
        }
        check.due("shorter, anew", x.text(3, 2), 2);
        check.due("shorter, anew: blanks", x.fault(3), 2);
        check.due("longer, anew", x.text(3, 60), 60);
        check.due("longer, anew: blanks", x.fault(3), 60);
        check.due("the last blank", x.put(3, 59, 0), 1032);
        check.due("anew is no TEXT more", x.count(7), 3);
        check.sentence(8, "BAD: also n above 60;");
        SnowCitizens y = new SnowCitizens();
        Check.write(y, 0, "z");
        check.allRefused(y, BAD, () -> y.text(0, 61), () -> y.text(0, MAX), () -> y.text(1, 61),
            () -> y.text(-1, 0), () -> y.text(4, 0), () -> y.text(MIN, 0), () -> y.text(MAX, 0),
            () -> y.text(4, -1), () -> y.text(-1, 61));
        check.due("the TEXT stays", y.put(0, 0, 122), 1122);
        check.sentence(8, "SIZE: below 0.");
        check.allFound(y, SIZE, () -> y.text(0, -1), () -> y.text(0, MIN), () -> y.text(3, -1));
        check.due("the TEXT stays, too", y.put(0, 0, 122), 1122);
        check.allFound(y, NOTHING, () -> y.fault(3));
    }

    private static void put() {
        check.sentence(9, "Byte i of a TEXT is v, cut to a byte (-128 .. 127): what it was, and 1000 more.");
        int[] put = {127, 128, 129, -128, -129, 255, 256, 0, -1, MAX, MIN, 1 << 8 | 122, 32, 383, 384};
        int[] cut = {127, -128, -127, -128, 127, -1, 0, 0, -1, -1, 0, 122, 32, 127, -128};
        SnowCitizens x = new SnowCitizens();
        x.text(3, 60);
        for (int place : new int[] {0, 59, 30}) {
            int was = 32;
            for (int k = 0; k < put.length; k++) {
                check.due("put " + put[k] + " at " + place, x.put(3, place, put[k]), 1000 + was);
                was = cut[k];
            }
            check.due("the last", x.put(3, place, 0), 1000 + was);
        }
        check.due("just those bytes", x.put(3, 1, 0), 1032);
        check.sentence(9, "BAD;");
        SnowCitizens y = new SnowCitizens();
        y.text(0, 3);
        check.allRefused(y, BAD, () -> y.put(4, 0, 1), () -> y.put(-1, 0, 1), () -> y.put(MIN, 0, 1),
            () -> y.put(MAX, 0, 1), () -> y.put(4, 9, 1));
        check.sentence(9, "NOTHING;");
        check.allFound(y, NOTHING, () -> y.put(1, 0, 1), () -> y.put(3, -1, 1), () -> y.put(3, 60, 1));
        check.sentence(9, "BEYOND.");
        check.allFound(y, BEYOND, () -> y.put(0, 3, 1), () -> y.put(0, -1, 1), () -> y.put(0, 60, 1),
            () -> y.put(0, MIN, 1), () -> y.put(0, MAX, 1));
        y.text(1, 0);
        check.allFound(y, BEYOND, () -> y.put(1, 0, 1));
    }
}
