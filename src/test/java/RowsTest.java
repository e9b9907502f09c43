/** Promises 1 to 9: a new object, ROWS and TEXTS as such. */
public final class RowsTest {
    private static final Check check = new Check("RowsTest");

    public static void main(String[] args) {
        newObject();
        row();
        lay();
        at();
        tear();
        copy();
        mean();
        text();
        put();
        check.end();
    }

    private static void newObject() {
        SnowCitizens x = new SnowCitizens();
        for (int r = 0; r < 6; r++) {
            int of = r;
            check.found("1 no ROW " + r, x, 1, () -> x.at(of, 0));
        }
        for (int t = 0; t < 4; t++) {
            int of = t;
            check.found("1 no TEXT " + t, x, 1, () -> x.fault(of));
        }
        for (int what = 0; what <= 8; what++) {
            check.due("1 count " + what, x.count(what), 0);
        }
        check.due("1 no MEN", x.now(), SnowCitizens.STATE);
        check.due("1 another object is apart", aRowElsewhere(x), 0);
    }

    private static int aRowElsewhere(SnowCitizens x) {
        new SnowCitizens().row(0, 4);
        return x.count(6);
    }

    private static void row() {
        SnowCitizens x = new SnowCitizens();
        check.due("2 a row", x.row(0, 3), 3);
        check.due("2 a row of none", x.row(5, 0), 0);
        check.due("2 a row of most", x.row(4, 40), 40);
        check.row("2 zeros", x, 0, 0, 0, 0);
        x.lay(0, 0, 6);
        x.lay(0, 1, 7);
        check.due("2 anew", x.row(0, 2), 2);
        check.row("2 zeros anew", x, 0, 0, 0);
        check.due("2 longer anew", x.row(0, 3), 3);
        check.row("2 zeros behind, too", x, 0, 0, 0, 0);
        check.refused("2 no row -1", x, -1, () -> x.row(-1, 3));
        check.refused("2 no row 6", x, -1, () -> x.row(6, 3));
        check.refused("2 too many", x, -1, () -> x.row(0, 41));
        check.refused("2 far too many", x, -1, () -> x.row(0, Integer.MAX_VALUE));
        check.found("2 fewer than none", x, 5, () -> x.row(0, -1));
        check.found("2 far fewer than none", x, 5, () -> x.row(1, Integer.MIN_VALUE));
        check.refused("2 BAD ahead of SIZE", x, -1, () -> x.row(6, -1));
    }

    private static void lay() {
        SnowCitizens x = new SnowCitizens();
        x.row(2, 2);
        check.due("3 lay", x.lay(2, 1, 5), 1);
        check.due("3 it was", x.asked(), 0);
        check.due("3 lay again", x.lay(2, 1, Integer.MIN_VALUE), 1);
        check.due("3 it was then", x.asked(), 5);
        check.row("3 the row", x, 2, 0, Integer.MIN_VALUE);
        check.refused("3 no row", x, -1, () -> x.lay(6, 0, 1));
        check.refused("3 no row ahead", x, -1, () -> x.lay(-1, 0, 1));
        check.found("3 missing", x, 1, () -> x.lay(3, 0, 1));
        check.found("3 missing ahead of beyond", x, 1, () -> x.lay(3, -1, 1));
        check.found("3 beyond", x, 2, () -> x.lay(2, 2, 1));
        check.found("3 beyond ahead", x, 2, () -> x.lay(2, -1, 1));
    }

    private static void at() {
        SnowCitizens x = new SnowCitizens();
        Check.lay(x, 1, 9, -8);
        check.due("4 at", x.at(1, 0), 1);
        check.due("4 tells", x.asked(), 9);
        check.due("4 at the last", x.at(1, 1), 1);
        check.due("4 tells the last", x.asked(), -8);
        check.refused("4 no row", x, -1, () -> x.at(6, 0));
        check.refused("4 no row ahead", x, -1, () -> x.at(Integer.MIN_VALUE, 0));
        check.found("4 missing", x, 1, () -> x.at(0, 0));
        check.found("4 beyond", x, 2, () -> x.at(1, 2));
        check.found("4 beyond ahead", x, 2, () -> x.at(1, -1));
        check.found("4 far beyond", x, 2, () -> x.at(1, Integer.MAX_VALUE));
    }

    private static void tear() {
        SnowCitizens x = new SnowCitizens();
        x.row(0, 1);
        x.row(1, 1);
        check.due("5 tear", x.tear(0), 1);
        check.found("5 it is missing", x, 1, () -> x.at(0, 0));
        check.due("5 the other one stays", x.at(1, 0), 1);
        check.found("5 torn twice", x, 1, () -> x.tear(0));
        check.refused("5 no row", x, -1, () -> x.tear(6));
        check.refused("5 no row ahead", x, -1, () -> x.tear(-1));
    }

    private static void copy() {
        SnowCitizens x = new SnowCitizens();
        Check.lay(x, 0, 1, 2, 3, 4, 5);
        Check.lay(x, 1, 6, 7);
        check.due("6 to another one", x.copy(0, 3, 1, 0, 2), 1);
        check.row("6 another one", x, 1, 4, 5);
        check.row("6 from stays", x, 0, 1, 2, 3, 4, 5);
        check.due("6 to itself, behind", x.copy(0, 0, 0, 1, 4), 1);
        check.row("6 as if taken ahead", x, 0, 1, 1, 2, 3, 4);
        check.due("6 to itself, ahead", x.copy(0, 2, 0, 0, 3), 1);
        check.row("6 as if taken ahead, too", x, 0, 2, 3, 4, 3, 4);
        check.due("6 none, at the ends", x.copy(0, 5, 1, 2, 0), 1);
        check.row("6 none changes nothing", x, 1, 4, 5);
        x.row(4, 40);
        x.row(5, 40);
        x.lay(4, 39, 8);
        check.due("6 the longest", x.copy(4, 0, 5, 0, 40), 1);
        check.due("6 to its last place", x.at(5, 39) + x.asked(), 9);
        check.refused("6 no row", x, -1, () -> x.copy(6, 0, 0, 0, 1));
        check.refused("6 no row to", x, -1, () -> x.copy(0, 0, -1, 0, 1));
        check.refused("6 BAD ahead of SIZE", x, -1, () -> x.copy(0, 0, 6, 0, -1));
        check.found("6 fewer than none", x, 5, () -> x.copy(0, 0, 1, 0, -1));
        check.found("6 SIZE ahead of NOTHING", x, 5, () -> x.copy(2, 0, 3, 0, -1));
        check.found("6 from is missing", x, 1, () -> x.copy(2, 0, 1, 0, 1));
        check.found("6 to is missing", x, 1, () -> x.copy(0, 0, 2, 0, 1));
        check.found("6 NOTHING ahead of BEYOND", x, 1, () -> x.copy(0, -1, 2, 0, 1));
        check.found("6 beyond from", x, 2, () -> x.copy(0, 4, 1, 0, 2));
        check.found("6 beyond to", x, 2, () -> x.copy(0, 0, 1, 1, 2));
        check.found("6 none from ahead of it", x, 2, () -> x.copy(0, -1, 1, 0, 0));
        check.found("6 none from behind it", x, 2, () -> x.copy(0, 6, 1, 0, 0));
        check.found("6 none to ahead of it", x, 2, () -> x.copy(0, 0, 1, -1, 0));
        check.found("6 none to behind it", x, 2, () -> x.copy(0, 0, 1, 3, 0));
        check.found("6 sums that wrap around", x, 2, () -> x.copy(0, 1, 1, 1, Integer.MAX_VALUE));
        check.found("6 places that wrap around", x, 2, () -> x.copy(0, Integer.MAX_VALUE, 1, 0, 2));
    }

    private static void mean() {
        SnowCitizens x = new SnowCitizens();
        Check.lay(x, 0, 1, 2, 2);
        check.due("7 mean", x.mean(0), 1);
        check.due("7 cut", x.asked(), 1);
        Check.lay(x, 1, -1, -2, -2);
        check.due("7 mean below 0", x.mean(1), 1);
        check.due("7 cut below 0", x.asked(), -1);
        Check.lay(x, 2, Integer.MAX_VALUE, Integer.MAX_VALUE, Integer.MAX_VALUE);
        check.due("7 mean of much", x.mean(2), 1);
        check.due("7 the sum does not wrap around", x.asked(), Integer.MAX_VALUE);
        x.row(3, 0);
        check.found("7 shared among none", x, 4, () -> x.mean(3));
        check.found("7 missing", x, 1, () -> x.mean(4));
        check.refused("7 no row", x, -1, () -> x.mean(6));
        check.refused("7 no row ahead", x, -1, () -> x.mean(-1));
    }

    private static void text() {
        SnowCitizens x = new SnowCitizens();
        check.due("8 a text", x.text(0, 3), 3);
        check.due("8 a text of none", x.text(1, 0), 0);
        check.due("8 a text of most", x.text(3, 60), 60);
        check.due("8 blanks alone", x.fault(3), 60);
        check.due("8 a blank", x.put(0, 2, 122), 1032);
        check.due("8 anew", x.text(0, 3), 3);
        check.due("8 blanks anew", x.put(0, 2, 32), 1032);
        check.refused("8 no text", x, -1, () -> x.text(4, 3));
        check.refused("8 no text ahead", x, -1, () -> x.text(-1, 3));
        check.refused("8 too many", x, -1, () -> x.text(0, 61));
        check.found("8 fewer than none", x, 5, () -> x.text(0, -1));
        check.refused("8 BAD ahead of SIZE", x, -1, () -> x.text(4, -1));
    }

    private static void put() {
        SnowCitizens x = new SnowCitizens();
        x.text(0, 3);
        check.due("9 it was a blank", x.put(0, 1, 127), 1032);
        check.due("9 it was 127", x.put(0, 1, 128), 1127);
        check.due("9 cut to -128", x.put(0, 1, -129), 1000 - 128);
        check.due("9 cut to 127", x.put(0, 1, 256), 1127);
        check.due("9 cut to 0", x.put(0, 1, Integer.MAX_VALUE), 1000);
        check.due("9 cut to -1", x.put(0, 1, 5), 999);
        check.refused("9 no text", x, -1, () -> x.put(4, 0, 1));
        check.refused("9 no text ahead", x, -1, () -> x.put(-1, 0, 1));
        check.found("9 missing", x, 1, () -> x.put(1, 0, 1));
        check.found("9 missing ahead of beyond", x, 1, () -> x.put(1, 9, 1));
        check.found("9 beyond", x, 2, () -> x.put(0, 3, 1));
        check.found("9 beyond ahead", x, 2, () -> x.put(0, -1, 1));
    }
}
