import java.lang.reflect.InvocationTargetException;
import java.lang.reflect.Method;
import java.util.ArrayList;
import java.util.Arrays;
import java.util.Comparator;
import java.util.List;

/** All promises: long runs of calls, ordinary and strange ones, on the class and on the Model alike. */
public final class ModelTest {
    private static final int RUNS = 400;
    private static final int FAR_RUNS = 150;
    private static final int QUICK_RUNS = 150;
    private static final int CALLS = 512;
    private static final List<String> FORETOLD = List.of("bulk", "gone", "votes", "carried", "days", "widow", "heir",
        "guard", "bribe", "carry", "mark", "man", "fits", "kinds", "odds", "mid", "game", "first", "at", "right");
    private static final List<String> SHORT_LIVED = List.of("census", "counted", "guard", "bribe", "game", "first",
        "heir", "widow", "rights", "votes", "days", "carried", "odds", "mid", "mark", "man", "kinds", "fits", "census",
        "bribe", "day", "shade", "snow", "right", "undo", "keep", "on", "lots");
    private static final List<String> DAYS_AHEAD =
        List.of("bulk1", "votes0", "days0", "heir1", "guard1", "bribe1", "carry1");

    private static final Check check = new Check("ModelTest");
    private static final List<Method> calls = new ArrayList<>();
    private static final List<Method> modelCalls = new ArrayList<>();
    private static long seed;

    public static void main(String[] args) throws Exception {
        for (Method call : SnowCitizens.class.getDeclaredMethods()) {
            if (java.lang.reflect.Modifier.isPublic(call.getModifiers())) {
                calls.add(call);
            }
        }
        calls.sort(Comparator.comparing(Method::getName));
        for (Method call : calls) {
            modelCalls.add(Model.class.getMethod(call.getName(), call.getParameterTypes()));
        }
        for (int run = 1; run <= RUNS; run++) {
            seed = 7919L * run;
            run(run);
        }
        for (int run = 1; run <= FAR_RUNS; run++) {
            seed = 104729L * run;
            farRun(-run);
        }
        for (int run = 1; run <= QUICK_RUNS; run++) {
            seed = 15485863L * run;
            quickRun(-FAR_RUNS - run);
        }
        check.end();
    }

    /** Numbers that are always the same. */
    private static int below(int n) {
        seed = (seed * 48271 + 11) % 2147483647;
        return (int) (seed / 7 % n);
    }

    private static void run(int run) throws Exception {
        SnowCitizens x = new SnowCitizens();
        Model y = new Model();
        int made = 0;
        while (made < CALLS) {
            if (made == 0 && run % 8 != 0 || below(90) == 0) {
                made = writeNorth(x, y, made, run);
            } else {
                int k = below(calls.size());
                if (skipped(calls.get(k).getName())) {
                    continue;
                }
                Object[] with = arguments(calls.get(k));
                made = call(x, y, k, with, made, run);
                if (calls.get(k).getReturnType() == int.class) {
                    made = call(x, y, indexOf("asked"), new Object[0], made, run);
                }
                if (made % 4 == 0) {
                    made = call(x, y, indexOf("digest"), new Object[0], made, run);
                }
            }
        }
    }

    /** From the last DAY that DEEDS can come to, far ahead: MEN that MELT slowly are told of up to DAY 119. */
    private static void farRun(int run) throws Exception {
        SnowCitizens x = new SnowCitizens();
        Model y = new Model();
        int made = write(x, y, slowText(), 0, 0, run);
        for (int k = 0; k < 3; k++) {
            int cloudy = below(2) == 0 ? 12 : below(13);
            made = call(x, y, indexOf("man"), new Object[] {0, 1}, made, run);
            made = call(x, y, indexOf("lots"), new Object[] {20, cloudy, 1 + below(1000000)}, made, run);
            made = call(x, y, indexOf("asked"), new Object[0], made, run);
        }
        check.due("DAY of run " + run, x.count(1), 60);
        made += 2;
        int men = x.count(0);
        while (made < CALLS - 40) {
            int k = indexOf(FORETOLD.get(below(FORETOLD.size())));
            Object[] with = arguments(calls.get(k));
            if (calls.get(k).getName().matches("fits|kinds")) {
                with = new Object[] {below(men), 5};
                made = laySeen(x, y, (int) with[0], made, run);
            }
            for (int place = 0; place < with.length; place++) {
                if (DAYS_AHEAD.contains(calls.get(k).getName() + place)) {
                    with[place] = 61 - below(below(2) == 0 ? 8 : 30);
                }
            }
            made = call(x, y, k, with, made, run);
            made = call(x, y, indexOf("asked"), new Object[0], made, run);
        }
        call(x, y, indexOf("digest"), new Object[0], made, run);
    }

    /** Many small MEN under a strong SUN, who are GONE soon: what depends on each DAY and each number. */
    private static void quickRun(int run) throws Exception {
        SnowCitizens x = new SnowCitizens();
        Model y = new Model();
        int made = write(x, y, quickText(), 3, 0, run);
        int men = y.count(0);
        made = call(x, y, indexOf("keep"), new Object[] {below(3)}, made, run);
        while (made < CALLS - 30) {
            String name = SHORT_LIVED.get(below(SHORT_LIVED.size()));
            int k = indexOf(name);
            Object[] with = arguments(calls.get(k));
            if (name.matches("fits|kinds")) {
                with = new Object[] {below(men), 5};
                made = laySeen(x, y, (int) with[0], made, run);
            } else if (name.equals("counted")) {
                with = new Object[] {4};
                made = layOrder(x, y, men, made, run);
            } else if (name.matches("lots|day") && below(2) == 0) {
                k = indexOf("undo");
                with = new Object[] {below(1 + y.count(3))};
            }
            made = call(x, y, k, with, made, run);
            made = call(x, y, indexOf("asked"), new Object[0], made, run);
            if (name.matches("odds|mid")) {
                made = call(x, y, indexOf("upper"), new Object[0], made, run);
                made = call(x, y, indexOf("lower"), new Object[0], made, run);
            } else if (name.matches("census|guard|bribe|shade|snow|undo|on|lots")) {
                made = call(x, y, indexOf("digest"), new Object[0], made, run);
            }
        }
    }

    /** Lays to ROW 4 all MEN in some order, now and then one twice. */
    private static int layOrder(SnowCitizens x, Model y, int men, int made, int run) throws Exception {
        List<Integer> order = new ArrayList<>();
        for (int i = 0; i < men; i++) {
            order.add(below(i + 1), i);
        }
        if (below(8) == 0) {
            order.set(below(men), below(men));
        }
        made = call(x, y, indexOf("row"), new Object[] {4, men}, made, run);
        for (int i = 0; i < men; i++) {
            made = call(x, y, indexOf("lay"), new Object[] {4, i, order.get(i)}, made, run);
        }
        return made;
    }

    /** Lays to ROW 5 a few BULKS of a MAN as they will be seen, now and then one that will not. */
    private static int laySeen(SnowCitizens x, Model y, int i, int made, int run) throws Exception {
        int pairs = below(4);
        made = call(x, y, indexOf("row"), new Object[] {5, 2 * pairs}, made, run);
        for (int k = 0; k < pairs; k++) {
            int in = 60 - below(below(2) == 0 ? 8 : 61);
            int then = y.bulk(i, in) + (below(8) == 0 ? 1 : 0);
            made = call(x, y, indexOf("lay"), new Object[] {5, 2 * k, in}, made, run);
            made = call(x, y, indexOf("lay"), new Object[] {5, 2 * k + 1, then}, made, run);
        }
        return made;
    }

    /** Calls that would end each run's NORTH or fill its DEEDS too soon come less often. */
    private static boolean skipped(String name) {
        return name.equals("north") && below(12) != 0 || name.equals("text") && below(6) != 0
            || name.equals("lots") && below(3) != 0 || name.equals("day") && below(3) == 0;
    }

    private static int indexOf(String name) {
        for (int k = 0; k < calls.size(); k++) {
            if (calls.get(k).getName().equals(name)) {
                return k;
            }
        }
        throw new AssertionError(name);
    }

    private static int call(SnowCitizens x, Model y, int k, Object[] with, int made, int run) throws Exception {
        if (made >= CALLS) {
            return made;
        }
        String label = "of " + calls.get(k).getName() + Arrays.toString(with) + ", call " + made + " of run " + run;
        try {
            long got = ((Number) calls.get(k).invoke(x, with)).longValue();
            check.due(label, got, ((Number) modelCalls.get(k).invoke(y, with)).longValue());
        } catch (InvocationTargetException e) {
            throw new AssertionError(label, e.getCause());
        }
        return made + 1;
    }

    private static int writeNorth(SnowCitizens x, Model y, int made, int run) throws Exception {
        String text = northText();
        if (text.length() > 60 || made + text.length() + 2 > CALLS) {
            return CALLS;
        }
        return write(x, y, text, below(4), made, run);
    }

    private static int write(SnowCitizens x, Model y, String text, int t, int made, int run) throws Exception {
        made = call(x, y, indexOf("text"), new Object[] {t, text.length()}, made, run);
        for (int i = 0; i < text.length(); i++) {
            if (text.charAt(i) != ' ') {
                made = call(x, y, indexOf("put"), new Object[] {t, i, (int) text.charAt(i)}, made, run);
            }
        }
        made = call(x, y, indexOf("fault"), new Object[] {t}, made, run);
        return call(x, y, indexOf("north"), new Object[] {t}, made, run);
    }

    private static String northText() {
        StringBuilder text = new StringBuilder(blanks()).append('z');
        int strong = 1 + below(10);
        for (int k = 0; k < 8; k++) {
            text.append(below(strong));
        }
        text.append(1 + below(9)).append(blanks());
        int men = 1 + below(6);
        int great = below(2) == 0 ? 99 : 25;
        for (int i = 0; i < men; i++) {
            int size = 1 + below(great);
            text.append("mhwsli".charAt(below(6))).append(size / 10).append(size % 10);
            text.append(below(below(2) == 0 ? 10 : 4)).append(below(2)).append(blanks());
        }
        if (below(6) == 0) {
            text.setCharAt(below(text.length()), "zm 059hwslix1".charAt(below(13)));
        }
        return text.toString();
    }

    private static String slowText() {
        StringBuilder text = new StringBuilder("z");
        for (int k = 0; k < 8; k++) {
            text.append(below(3) == 0 ? 1 + below(3) : 0);
        }
        text.append(1 + below(9));
        int men = 1 + below(6);
        for (int i = 0; i < men; i++) {
            text.append("mhwli".charAt(below(5))).append(10 + below(90)).append(below(3)).append(below(2));
        }
        return text.toString();
    }

    private static String quickText() {
        StringBuilder text = new StringBuilder("z");
        for (int k = 0; k < 8; k++) {
            text.append(1 + below(9));
        }
        text.append(1 + below(9));
        int men = 3 + below(4);
        for (int i = 0; i < men; i++) {
            int size = 1 + below(30);
            text.append("mhwsli".charAt(below(6))).append(size / 10).append(size % 10);
            text.append(below(below(2) == 0 ? 10 : 4)).append(below(2));
        }
        return text.toString();
    }

    private static String blanks() {
        return below(4) == 0 ? "  ".substring(below(2)) : "";
    }

    private static Object[] arguments(Method call) {
        Object[] with = new Object[call.getParameterCount()];
        for (int k = 0; k < with.length; k++) {
            with[k] = argument(call.getName(), k);
        }
        return with;
    }

    private static int argument(String name, int k) {
        int strange = below(40);
        if (strange == 0) {
            int[] all = {-1, -2, Integer.MIN_VALUE, Integer.MAX_VALUE, 61, 100, 41, 6, 7, 1 << 30, 13, 64};
            return all[below(all.length)];
        }
        switch (name + k) {
            case "row1":
                return below(4) == 0 ? below(43) - 1 : below(4) * 2;
            case "lay2":
                return below(5) == 0 ? (int) seed - below(1 << 30) : below(30);
            case "lay1":
            case "at1":
                return below(5);
            case "text1":
                return below(63) - 1;
            case "put1":
                return below(30);
            case "put2":
                return below(2) == 0 ? below(1000) - 500 : "z0123456789 mhwsli".charAt(below(18));
            case "shade1":
            case "right0":
                return below(11);
            case "snow1":
                return below(11);
            case "sun0":
                return below(102) - 1;
            case "undo0":
                return below(below(3) == 0 ? 4 : 40);
            case "bulk1":
            case "votes0":
            case "days0":
            case "heir1":
            case "guard1":
            case "bribe1":
            case "carry1":
                return below(2) == 0 ? below(8) : below(62);
            case "guard0":
            case "rights0":
                return below(below(2) == 0 ? 4 : 65);
            case "odds1":
            case "mid1":
                return below(6) == 0 ? 8 : below(6);
            case "odds2":
            case "mid2":
            case "lots1":
                return below(14);
            case "lots0":
                return below(2) == 0 ? below(5) : below(21);
            case "lots2":
                return below(10) == 0 ? below(3) : below(2147483646);
            case "game0":
            case "first0":
                return below(8) == 0 ? 2 : below(2);
            case "bribe0":
            case "carried0":
                return below(2);
            case "count0":
                return below(10);
            default:
                return below(5);
        }
    }
}
