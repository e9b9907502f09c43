import java.math.BigInteger;
import java.util.ArrayList;
import java.util.Arrays;
import java.util.List;
import java.util.regex.Matcher;
import java.util.regex.Pattern;

/**
 * The document once more, told in the slowest and plainest way: every DAY is lived through, every order,
 * every SHADE, every game is tried. It has the face of SnowCitizens, so that both can be called alike.
 */
public final class Model {
    private static final int BAD = -1, FULL = -2, FINDING = -3, STATE = -4, NONE = -9;

    /** A MAN of snow; each KIND tells by how much it MELTS. */
    private static class Man implements Cloneable {
        int bulk;
        int shade;
        int vote;

        int kind() {
            return 0;
        }

        int melts(int sun, int day) {
            return Math.max(0, sun - shade);
        }

        boolean hasRight(int right) {
            return bulk >= right;
        }

        int says(List<Man> all, int i, int right) {
            return vote;
        }

        Man copy() {
            try {
                return (Man) clone();
            } catch (CloneNotSupportedException e) {
                throw new AssertionError(e);
            }
        }
    }

    private static class Hatted extends Man {
        int kind() {
            return 1;
        }

        int melts(int sun, int day) {
            return Math.max(0, super.melts(sun, day) - 1);
        }
    }

    private static final class Wed extends Man {
        int kind() {
            return 2;
        }

        int melts(int sun, int day) {
            return super.melts(sun, day) / 2;
        }

        int says(List<Man> all, int i, int right) {
            return as(all, i, right) == i ? vote : all.get(i - 1).says(all, i - 1, right);
        }

        static int as(List<Man> all, int i, int right) {
            return i > 0 && all.get(i - 1).hasRight(right) ? i - 1 : i;
        }
    }

    private static final class Sunny extends Man {
        int kind() {
            return 3;
        }

        int melts(int sun, int day) {
            return super.melts(sun, day) + 1;
        }

        int says(List<Man> all, int i, int right) {
            return 1;
        }
    }

    private static final class Lawyer extends Hatted {
        int kind() {
            return 4;
        }

        boolean hasRight(int right) {
            return bulk > 0;
        }
    }

    private static final class Iced extends Hatted {
        int kind() {
            return 5;
        }

        int melts(int sun, int day) {
            return day % 2 == 0 ? 0 : super.melts(sun, day);
        }
    }

    private static Man ofKind(int kind) {
        Man[] all = {new Man(), new Hatted(), new Wed(), new Sunny(), new Lawyer(), new Iced()};
        return all[kind];
    }

    /** MEN on a DAY. */
    private static final class State {
        final List<Man> men = new ArrayList<>();
        int[] suns = new int[8];
        int day;

        State copy() {
            State other = new State();
            for (Man man : men) {
                other.men.add(man.copy());
            }
            other.suns = suns;
            other.day = day;
            return other;
        }

        State passed(boolean clouds) {
            State next = copy();
            for (Man man : next.men) {
                if (!clouds) {
                    man.bulk = Math.max(0, man.bulk - man.melts(suns[day % 8], day));
                }
            }
            next.day++;
            return next;
        }

        State after(int days) {
            State then = this;
            for (int k = 0; k < days; k++) {
                then = then.passed(false);
            }
            return then;
        }

        State with(int i, Man man) {
            State other = copy();
            other.men.set(i, man);
            return other;
        }

        State shaded(int i, int v) {
            State other = copy();
            other.men.get(i).shade = v;
            return other;
        }

        State sized(int i, int v) {
            State other = copy();
            other.men.get(i).bulk = v;
            return other;
        }

        int ones(int right) {
            int sum = 0;
            for (int i = 0; i < men.size(); i++) {
                sum += men.get(i).hasRight(right) ? men.get(i).says(men, i, right) : 0;
            }
            return sum;
        }

        int voters(int right) {
            int set = 0;
            for (int i = 0; i < men.size(); i++) {
                set |= men.get(i).hasRight(right) ? 1 << i : 0;
            }
            return set;
        }

        boolean carries(int right) {
            return ones(right) > Integer.bitCount(voters(right)) - ones(right);
        }

        int living() {
            return voters(1);
        }
    }

    private static final class Kept {
        final List<State> states;
        final int right;

        Kept(List<State> states, int right) {
            this.states = new ArrayList<>(states);
            this.right = right;
        }
    }

    private final int[][] rows = new int[6][];
    private final byte[][] texts = new byte[4][];
    private final Kept[] kept = new Kept[3];
    /** The states ahead of each DEED, and that now. Empty: no MEN. */
    private List<State> states = new ArrayList<>();
    private int right;
    private int asked;
    private int finding;
    private final int[] findings = new int[6];
    private BigInteger upper = BigInteger.ZERO;
    private BigInteger lower = BigInteger.ONE;

    private int found(int f) {
        finding = f;
        findings[f]++;
        return FINDING;
    }

    private int tell(int v) {
        asked = v;
        return 1;
    }

    private boolean noRow(int r) {
        return r < 0 || r > 5;
    }

    private boolean noMan(int i) {
        return states.isEmpty() || i < 0 || i >= here().men.size();
    }

    private boolean notAhead(int n) {
        return n < 0 || n > 60;
    }

    private State here() {
        return states.get(states.size() - 1);
    }

    private int deeds() {
        return states.isEmpty() ? 0 : states.size() - 1;
    }

    private int menCount() {
        return states.isEmpty() ? 0 : here().men.size();
    }

    public int row(int r, int n) {
        if (noRow(r) || n > 40) {
            return BAD;
        }
        if (n < 0) {
            return found(5);
        }
        rows[r] = new int[n];
        return n;
    }

    public int lay(int r, int i, int v) {
        if (noRow(r)) {
            return BAD;
        }
        if (rows[r] == null) {
            return found(1);
        }
        if (i < 0 || i >= rows[r].length) {
            return found(2);
        }
        asked = rows[r][i];
        rows[r][i] = v;
        return 1;
    }

    public int at(int r, int i) {
        if (noRow(r)) {
            return BAD;
        }
        if (rows[r] == null) {
            return found(1);
        }
        if (i < 0 || i >= rows[r].length) {
            return found(2);
        }
        return tell(rows[r][i]);
    }

    public int tear(int r) {
        if (noRow(r)) {
            return BAD;
        }
        if (rows[r] == null) {
            return found(1);
        }
        rows[r] = null;
        return 1;
    }

    public int copy(int r, int i, int to, int j, int n) {
        if (noRow(r) || noRow(to)) {
            return BAD;
        }
        if (n < 0) {
            return found(5);
        }
        if (rows[r] == null || rows[to] == null) {
            return found(1);
        }
        if (i < 0 || j < 0 || (long) i + n > rows[r].length || (long) j + n > rows[to].length) {
            return found(2);
        }
        int[] ahead = rows[r].clone();
        for (int k = 0; k < n; k++) {
            rows[to][j + k] = ahead[i + k];
        }
        return 1;
    }

    public int mean(int r) {
        if (noRow(r)) {
            return BAD;
        }
        if (rows[r] == null) {
            return found(1);
        }
        if (rows[r].length == 0) {
            return found(4);
        }
        BigInteger sum = BigInteger.ZERO;
        for (int v : rows[r]) {
            sum = sum.add(BigInteger.valueOf(v));
        }
        return tell(sum.divide(BigInteger.valueOf(rows[r].length)).intValue());
    }

    public int text(int t, int n) {
        if (t < 0 || t > 3 || n > 60) {
            return BAD;
        }
        if (n < 0) {
            return found(5);
        }
        texts[t] = new byte[n];
        Arrays.fill(texts[t], (byte) ' ');
        return n;
    }

    public int put(int t, int i, int v) {
        if (t < 0 || t > 3) {
            return BAD;
        }
        if (texts[t] == null) {
            return found(1);
        }
        if (i < 0 || i >= texts[t].length) {
            return found(2);
        }
        int was = texts[t][i];
        texts[t][i] = (byte) v;
        return was + 1000;
    }

    private static final Pattern NORTH =
        Pattern.compile(" *z[0-9]{8}[1-9] *(?:[mhwsli](?:0[1-9]|[1-9][0-9])[0-9][01] *){1,6}");

    private String signs(int t) {
        StringBuilder all = new StringBuilder();
        for (byte b : texts[t]) {
            all.append((char) (b & 255));
        }
        return all.toString();
    }

    public int fault(int t) {
        if (t < 0 || t > 3) {
            return BAD;
        }
        if (texts[t] == null) {
            return found(1);
        }
        String all = signs(t);
        for (int k = 1; k <= all.length(); k++) {
            Matcher matcher = NORTH.matcher(all.substring(0, k));
            if (!matcher.matches() && !matcher.hitEnd()) {
                return k - 1;
            }
        }
        return NORTH.matcher(all).matches() ? NONE : all.length();
    }

    public int north(int t) {
        if (t < 0 || t > 3) {
            return BAD;
        }
        if (texts[t] == null) {
            return found(1);
        }
        if (fault(t) != NONE) {
            return STATE;
        }
        String all = signs(t).replace(" ", "");
        State first = new State();
        for (int k = 0; k < 8; k++) {
            first.suns[k] = all.charAt(1 + k) - '0';
        }
        right = all.charAt(9) - '0';
        for (int at = 10; at < all.length(); at += 5) {
            Man man = ofKind("mhwsli".indexOf(all.charAt(at)));
            man.bulk = Integer.parseInt(all.substring(at + 1, at + 3));
            man.shade = all.charAt(at + 3) - '0';
            man.vote = all.charAt(at + 4) - '0';
            first.men.add(man);
        }
        states = new ArrayList<>();
        states.add(first);
        Arrays.fill(kept, null);
        return first.men.size();
    }

    public int man(int i, int what) {
        if (noMan(i) || what < 0 || what > 5) {
            return BAD;
        }
        return tell(told(i, what));
    }

    private int told(int i, int what) {
        Man man = here().men.get(i);
        int says = man.hasRight(right) ? man.says(here().men, i, right) : NONE;
        return new int[] {man.kind(), man.bulk, man.shade, man.vote, man.hasRight(right) ? 1 : 0, says}[what];
    }

    public int mark(int i, int kind) {
        if (noMan(i) || kind < 1 || kind > 5) {
            return BAD;
        }
        Man man = here().men.get(i);
        if (!ofKind(kind).getClass().isInstance(man)) {
            return found(3);
        }
        int sum = 0;
        if (kind == 1) {
            return man.bulk - here().after(1).men.get(i).bulk;
        } else if (kind == 2) {
            return man.hasRight(right) ? Wed.as(here().men, i, right) : NONE;
        } else if (kind == 3) {
            return gone(i);
        } else if (kind == 4) {
            for (int n = 0; n < 60; n++) {
                Man then = here().after(n).men.get(i);
                sum += then.hasRight(right) && then.bulk < right ? 1 : 0;
            }
        } else {
            for (int n = 0; n < 8; n++) {
                State then = here().after(n).sized(i, 50);
                sum += then.after(1).men.get(i).bulk < 50 ? 1 : 0;
            }
        }
        return sum;
    }

    public int sun(int day) {
        if (day < 0 || day > 99) {
            return BAD;
        }
        return states.isEmpty() ? STATE : here().suns[day % 8];
    }

    public int right(int v) {
        if (v < 1 || v > 9) {
            return BAD;
        }
        if (states.isEmpty()) {
            return STATE;
        }
        int was = right;
        right = v;
        return was;
    }

    public int day() {
        if (states.isEmpty()) {
            return STATE;
        }
        if (deeds() == 60) {
            return FULL;
        }
        states.add(here().passed(false));
        return Integer.bitCount(here().living());
    }

    public int shade(int i, int v) {
        if (noMan(i) || v < 0 || v > 9) {
            return BAD;
        }
        if (deeds() == 60) {
            return FULL;
        }
        int was = here().men.get(i).shade;
        states.add(here().shaded(i, v));
        return was;
    }

    public int snow(int i, int n) {
        if (noMan(i) || n < 1 || n > 9) {
            return BAD;
        }
        if (here().men.get(i).bulk == 0) {
            return STATE;
        }
        if (deeds() == 60) {
            return FULL;
        }
        states.add(here().sized(i, Math.min(99, here().men.get(i).bulk + n)));
        return here().men.get(i).bulk;
    }

    public int undo(int n) {
        if (n < 0 || n > deeds()) {
            return BAD;
        }
        int many = deeds() - n;
        for (int k = 0; k < many; k++) {
            states.remove(states.size() - 1);
        }
        return many;
    }

    public int now() {
        if (states.isEmpty()) {
            return STATE;
        }
        asked = here().living();
        return here().day;
    }

    public int keep(int k) {
        if (k < 0 || k > 2) {
            return BAD;
        }
        if (states.isEmpty()) {
            return STATE;
        }
        kept[k] = new Kept(states, right);
        return deeds();
    }

    public int on(int k) {
        if (k < 0 || k > 2) {
            return BAD;
        }
        if (kept[k] == null) {
            return found(1);
        }
        states = new ArrayList<>(kept[k].states);
        right = kept[k].right;
        return deeds();
    }

    public int bulk(int i, int n) {
        return noMan(i) || notAhead(n) ? BAD : here().after(n).men.get(i).bulk;
    }

    public int gone(int i) {
        if (noMan(i)) {
            return BAD;
        }
        for (int n = 0; n <= 60; n++) {
            if (here().after(n).men.get(i).bulk == 0) {
                return n;
            }
        }
        return NONE;
    }

    public int votes(int n) {
        if (notAhead(n)) {
            return BAD;
        }
        if (states.isEmpty()) {
            return STATE;
        }
        State then = here().after(n);
        asked = Integer.bitCount(then.voters(right)) - then.ones(right);
        return then.ones(right);
    }

    public int carried(int is) {
        if (is < 0 || is > 1) {
            return BAD;
        }
        if (states.isEmpty()) {
            return STATE;
        }
        for (int n = 0; n <= 60; n++) {
            if ((here().after(n).carries(right) ? 1 : 0) == is) {
                return n;
            }
        }
        return NONE;
    }

    public int days(int n) {
        if (notAhead(n)) {
            return BAD;
        }
        if (states.isEmpty()) {
            return STATE;
        }
        int sum = 0;
        for (int k = 0; k <= n; k++) {
            sum += here().after(k).carries(right) ? 1 : 0;
        }
        return sum;
    }

    public int widow() {
        if (states.isEmpty()) {
            return STATE;
        }
        for (int n = 1; n <= 60; n++) {
            int went = here().living() & ~here().after(n).living();
            if (went != 0) {
                asked = n;
                return Integer.numberOfTrailingZeros(went);
            }
        }
        return NONE;
    }

    public int heir(int i, int n) {
        if (noMan(i) || notAhead(n)) {
            return BAD;
        }
        int living = here().after(n).living();
        for (int who : new int[] {i, i + 1, i + 2, i + 3, i + 4, i + 5, i - 1, i - 2, i - 3, i - 4, i - 5}) {
            if (who >= 0 && who < menCount() && (living >> who & 1) == 1) {
                return who;
            }
        }
        return NONE;
    }

    public int guard(int set, int n, int r) {
        if (noRow(r) || notAhead(n) || set < 0 || set >= 1 << menCount()) {
            return BAD;
        }
        if (states.isEmpty()) {
            return STATE;
        }
        int[] plan = new int[menCount()];
        int sum = 0;
        for (int i = 0; i < plan.length; i++) {
            plan[i] = here().men.get(i).shade;
            while ((set >> i & 1) == 1 && here().shaded(i, plan[i]).after(n).men.get(i).bulk == 0) {
                plan[i]++;
                sum++;
                if (plan[i] > 9) {
                    return NONE;
                }
            }
        }
        rows[r] = plan;
        return sum;
    }

    public int bribe(int is, int n, int r) {
        if (noRow(r) || is < 0 || is > 1 || notAhead(n)) {
            return BAD;
        }
        if (states.isEmpty()) {
            return STATE;
        }
        int men = menCount();
        int[] best = null;
        int fewest = Integer.MAX_VALUE;
        for (int set = 0; set < 1 << men; set++) {
            int[] plan = new int[men];
            int sum = 0;
            State then = here();
            for (int i = 0; i < men && sum >= 0; i++) {
                int cost = Integer.MAX_VALUE;
                for (int v = 0; v <= 9; v++) {
                    int far = Math.abs(v - here().men.get(i).shade);
                    boolean has = here().shaded(i, v).after(n).men.get(i).hasRight(right);
                    if (has == ((set >> i & 1) == 1) && far < cost) {
                        cost = far;
                        plan[i] = v;
                    }
                }
                sum = cost == Integer.MAX_VALUE ? -1 : sum + cost;
                then = then.shaded(i, plan[i]);
            }
            if (sum >= 0 && sum < fewest && (then.after(n).carries(right) ? 1 : 0) == is) {
                fewest = sum;
                best = plan;
            }
        }
        int truly = men <= 2 ? fewestOfAll(is, n) : fewest;
        if (truly != fewest) {
            throw new AssertionError("bribe: " + truly + " by all shades, " + fewest + " by sets");
        }
        if (best == null) {
            return NONE;
        }
        rows[r] = best;
        return fewest;
    }

    /** By all SHADES of one MAN or two. */
    private int fewestOfAll(int is, int n) {
        int fewest = Integer.MAX_VALUE;
        int last = menCount() - 1;
        for (int v = 0; v <= 9; v++) {
            for (int w = 0; w <= (last == 0 ? 0 : 9); w++) {
                State then = here().shaded(0, v);
                then = last == 0 ? then : then.shaded(1, w);
                int sum = Math.abs(v - here().men.get(0).shade)
                    + (last == 0 ? 0 : Math.abs(w - here().men.get(1).shade));
                if (sum < fewest && (then.after(n).carries(right) ? 1 : 0) == is) {
                    fewest = sum;
                }
            }
        }
        return fewest;
    }

    public int carry(int i, int n) {
        if (noMan(i) || notAhead(n)) {
            return BAD;
        }
        int size = here().men.get(i).bulk;
        for (int more = 0; size > 0 && size + more <= 99; more++) {
            if (here().sized(i, size + more).after(n).men.get(i).hasRight(right)) {
                return more;
            }
        }
        return NONE;
    }

    public int census(int r) {
        if (noRow(r)) {
            return BAD;
        }
        if (states.isEmpty()) {
            return STATE;
        }
        List<int[]> orders = new ArrayList<>();
        addOrders(orders, new int[menCount()], 0, 0);
        int[] best = null;
        int most = -1;
        for (int[] order : orders) {
            if (countedBy(order) > most) {
                most = countedBy(order);
                best = order;
            }
        }
        rows[r] = best;
        return most;
    }

    private void addOrders(List<int[]> orders, int[] order, int place, int done) {
        if (place == order.length) {
            orders.add(order.clone());
        }
        for (int i = 0; i < order.length; i++) {
            if ((done >> i & 1) == 0) {
                order[place] = i;
                addOrders(orders, order, place + 1, done | 1 << i);
            }
        }
    }

    private int countedBy(int[] order) {
        int sum = 0;
        State then = here();
        for (int i : order) {
            sum += then.men.get(i).bulk > 0 ? 1 : 0;
            then = then.passed(false);
        }
        return sum;
    }

    public int counted(int r) {
        if (noRow(r)) {
            return BAD;
        }
        if (states.isEmpty()) {
            return STATE;
        }
        if (rows[r] == null) {
            return found(1);
        }
        if (rows[r].length != menCount()) {
            return found(5);
        }
        int[] sorted = rows[r].clone();
        Arrays.sort(sorted);
        for (int i = 0; i < sorted.length; i++) {
            if (sorted[i] != i) {
                return found(3);
            }
        }
        return countedBy(rows[r]);
    }

    private int refused(int i, int r) {
        if (noRow(r) || noMan(i)) {
            return BAD;
        }
        if (rows[r] == null) {
            return found(1);
        }
        if (rows[r].length % 2 == 1) {
            return found(5);
        }
        for (int k = 0; k < rows[r].length; k++) {
            if (rows[r][k] < 0 || rows[r][k] > (k % 2 == 0 ? 60 : 99)) {
                return found(3);
            }
        }
        return 0;
    }

    private static boolean seen(State from, int i, int[] pairs) {
        for (int k = 0; k < pairs.length; k += 2) {
            if (from.after(pairs[k]).men.get(i).bulk != pairs[k + 1]) {
                return false;
            }
        }
        return true;
    }

    public int fits(int i, int r) {
        int refused = refused(i, r);
        if (refused != 0) {
            return refused;
        }
        int sum = 0;
        asked = NONE;
        for (int size = 99; size >= 0; size--) {
            if (seen(here().sized(i, size), i, rows[r])) {
                asked = size;
                sum++;
            }
        }
        return sum;
    }

    public int kinds(int i, int r) {
        int refused = refused(i, r);
        if (refused != 0) {
            return refused;
        }
        int set = 0;
        for (int kind = 0; kind <= 5; kind++) {
            Man other = ofKind(kind);
            other.bulk = here().men.get(i).bulk;
            other.shade = here().men.get(i).shade;
            set |= seen(here().with(i, other), i, rows[r]) ? 1 << kind : 0;
        }
        return set;
    }

    public int rights(int set) {
        if (set < 0 || set >= 1 << menCount()) {
            return BAD;
        }
        int which = 0;
        for (int v = 1; v <= 9; v++) {
            which |= states.isEmpty() || here().voters(v) == set ? 1 << v : 0;
        }
        return which;
    }

    private boolean ends(State from, int turns) {
        if (turns == 0) {
            return from.after(3).carries(right);
        }
        boolean some = false;
        boolean all = true;
        for (int move = 0; move < 2 * from.men.size(); move++) {
            int v = from.men.get(move / 2).shade + 1 - 2 * (move % 2);
            if (v >= 0 && v <= 9) {
                boolean is = ends(from.shaded(move / 2, v), turns - 1);
                some |= is;
                all &= is;
            }
        }
        return turns % 2 == 0 ? some : all;
    }

    public int game(int n) {
        if (n < 0 || n > 2) {
            return BAD;
        }
        return states.isEmpty() ? STATE : ends(here(), 2 * n) ? 1 : 0;
    }

    public int first(int n) {
        if (n < 1 || n > 2) {
            return BAD;
        }
        if (states.isEmpty()) {
            return STATE;
        }
        for (int move = 0; move < 2 * menCount(); move++) {
            int v = here().men.get(move / 2).shade + 1 - 2 * (move % 2);
            if (v >= 0 && v <= 9 && ends(here().shaded(move / 2, v), 2 * n - 1)) {
                return move;
            }
        }
        return NONE;
    }

    private int chances(int i, int n, int p, boolean mean) {
        if (noMan(i) || n < 0 || n > 8 || p < 0 || p > 12) {
            return BAD;
        }
        long sum = 0;
        for (int clouds = 0; clouds < 1 << n; clouds++) {
            State then = here();
            long ways = 1;
            for (int k = 0; k < n; k++) {
                boolean cloudy = (clouds >> k & 1) == 1;
                then = then.passed(cloudy);
                ways *= cloudy ? p : 12 - p;
            }
            int size = then.men.get(i).bulk;
            sum += ways * (mean ? size : Math.min(1, size));
        }
        upper = BigInteger.valueOf(sum);
        lower = BigInteger.valueOf(12).pow(n);
        BigInteger divisor = upper.gcd(lower);
        upper = upper.divide(divisor);
        lower = lower.divide(divisor);
        return 1;
    }

    public int odds(int i, int n, int p) {
        return chances(i, n, p, false);
    }

    public int mid(int i, int n, int p) {
        return chances(i, n, p, true);
    }

    public int lots(int n, int p, int seed) {
        if (n < 1 || n > 20 || p < 0 || p > 12 || seed < 1 || seed == Integer.MAX_VALUE) {
            return BAD;
        }
        if (states.isEmpty()) {
            return STATE;
        }
        if (deeds() + n > 60) {
            return FULL;
        }
        BigInteger lot = BigInteger.valueOf(seed);
        for (int k = 0; k < n; k++) {
            lot = lot.multiply(BigInteger.valueOf(48271)).mod(BigInteger.valueOf(2147483647));
            states.add(here().passed(lot.intValueExact() % 12 < p));
        }
        return Integer.bitCount(here().living());
    }

    public int asked() {
        return asked;
    }

    public long upper() {
        return upper.longValueExact();
    }

    public long lower() {
        return lower.longValueExact();
    }

    public int count(int what) {
        int bulks = 0;
        int hatted = 0;
        for (int i = 0; i < menCount(); i++) {
            bulks += here().men.get(i).bulk;
            hatted += here().men.get(i) instanceof Hatted ? 1 : 0;
        }
        int day = states.isEmpty() ? 0 : here().day;
        int[] all = {menCount(), day, right, deeds(), bulks, hatted, there(rows), there(texts), there(kept)};
        return what < 0 || what >= all.length ? BAD : all[what];
    }

    private static int there(Object[] all) {
        int sum = 0;
        for (Object one : all) {
            sum += one == null ? 0 : 1;
        }
        return sum;
    }

    public int finding() {
        return finding;
    }

    public int findings(int f) {
        return f < 1 || f > 5 ? BAD : findings[f];
    }

    public long digest() {
        List<Integer> all = new ArrayList<>();
        for (int what = 0; what <= 8; what++) {
            all.add(count(what));
        }
        for (int i = 0; i < menCount(); i++) {
            for (int what = 0; what <= 5; what++) {
                all.add(told(i, what));
            }
        }
        for (Kept one : kept) {
            all.add(one == null ? -1 : one.states.size() - 1);
        }
        for (int[] one : rows) {
            all.add(one == null ? -1 : one.length);
            for (int k = 0; one != null && k < one.length; k++) {
                all.add(one[k]);
            }
        }
        for (byte[] one : texts) {
            all.add(one == null ? -1 : one.length);
            for (int k = 0; one != null && k < one.length; k++) {
                all.add((int) one[k]);
            }
        }
        long h = 17;
        for (int v : all) {
            h = 31 * h + v;
        }
        return h;
    }
}
