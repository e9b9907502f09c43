/**
 * Citizens till it thaws: MEN of snow with sizes, SHADE and votes, under a SUN by DAYS. The document's
 * terms stand in capitals here; README.md tells how to use the class.
 */
public final class SnowCitizens {
    public static final int BAD = -1, FULL = -2, FINDING = -3, STATE = -4, SPENT = -6, NONE = -9;

    private static final int NOTHING = 1, BEYOND = 2, UNLIKE = 3, NOUGHT = 4, SIZE = 5;
    private static final int ROWS = 6, TEXTS = 4, KEPT = 3;
    private static final int ROW_SIZE = 40, TEXT_SIZE = 60;
    private static final int MOST_MEN = 6, MOST_DEEDS = 60, MOST_BULK = 99, MOST_SHADE = 9, MOST_RIGHT = 9;
    private static final int HATTED = 1, WED = 2, SUNNY = 3, LAWYER = 4, ICED = 5, KINDS = 6;
    private static final int SUNS = 8;
    /** The farthest DAY from now that is foretold. */
    private static final int FAR = 60;
    private static final int LAST_SUN = 99;
    private static final int TURNS = 2, GAME_DAYS = 3;
    private static final int CLOUD_DAYS = 8, TWELVE = 12, LOT_DAYS = 20;
    private static final int COUNTS = 9, MAN_TELLS = 6;

    private final Row[] rows = new Row[ROWS];
    private final Text[] texts = new Text[TEXTS];
    private final North north = new North();
    private final North[] kept = new North[KEPT];
    private final Reading reading = new Reading();
    private final Game game = new Game();
    private final Clouds clouds = new Clouds();
    private final int[] findingCounts = new int[SIZE + 1];
    private int latestFinding;
    private int told;
    private long upperNumber;
    private long lowerNumber = 1;

    // Rows that calls use again and again, so that no call makes objects.
    private final int[] ahead = new int[FAR + 1];
    private final int[] plan = new int[MOST_MEN];
    private final int[] shadesWith = new int[MOST_MEN];
    private final int[] shadesWithout = new int[MOST_MEN];
    private final int[] mostCounted = new int[1 << MOST_MEN];

    public SnowCitizens() {
        for (int r = 0; r < rows.length; r++) {
            rows[r] = new Row();
        }
        for (int t = 0; t < texts.length; t++) {
            texts[t] = new Text();
        }
        for (int k = 0; k < kept.length; k++) {
            kept[k] = new North();
        }
    }

    // ---- 1 rows, texts, norths

    public int row(int r, int n) {
        Row row = rowOf(r);
        if (row == null || n > ROW_SIZE) {
            return BAD;
        }
        if (n < 0) {
            return found(SIZE);
        }
        row.renew(n);
        return n;
    }

    public int lay(int r, int i, int v) {
        Row row = rowOf(r);
        if (row == null) {
            return BAD;
        }
        if (!row.there) {
            return found(NOTHING);
        }
        if (i < 0 || i >= row.size) {
            return found(BEYOND);
        }
        int was = read(row.cells, i);
        write(row.cells, i, v);
        return tell(was);
    }

    public int at(int r, int i) {
        Row row = rowOf(r);
        if (row == null) {
            return BAD;
        }
        if (!row.there) {
            return found(NOTHING);
        }
        if (i < 0 || i >= row.size) {
            return found(BEYOND);
        }
        return tell(read(row.cells, i));
    }

    public int tear(int r) {
        Row row = rowOf(r);
        if (row == null) {
            return BAD;
        }
        if (!row.there) {
            return found(NOTHING);
        }
        row.there = false;
        return 1;
    }

    public int copy(int r, int i, int to, int j, int n) {
        Row from = rowOf(r);
        Row into = rowOf(to);
        if (from == null || into == null) {
            return BAD;
        }
        if (n < 0) {
            return found(SIZE);
        }
        if (!from.there || !into.there) {
            return found(NOTHING);
        }
        if (!from.reaches(i, n) || !into.reaches(j, n)) {
            return found(BEYOND);
        }
        System.arraycopy(from.cells, i, into.cells, j, n);
        return 1;
    }

    public int mean(int r) {
        Row row = rowOf(r);
        if (row == null) {
            return BAD;
        }
        if (!row.there) {
            return found(NOTHING);
        }
        if (row.size == 0) {
            return found(NOUGHT);
        }
        return tell((int) (row.sum() / row.size));
    }

    public int text(int t, int n) {
        Text text = textOf(t);
        if (text == null || n > TEXT_SIZE) {
            return BAD;
        }
        if (n < 0) {
            return found(SIZE);
        }
        text.renew(n);
        return n;
    }

    public int put(int t, int i, int v) {
        Text text = textOf(t);
        if (text == null) {
            return BAD;
        }
        if (!text.there) {
            return found(NOTHING);
        }
        if (i < 0 || i >= text.size) {
            return found(BEYOND);
        }
        int was = text.sign(i);
        text.change(i, (byte) v);
        return was + 1000;
    }

    public int fault(int t) {
        Text text = textOf(t);
        if (text == null) {
            return BAD;
        }
        if (!text.there) {
            return found(NOTHING);
        }
        return reading.faultIn(text);
    }

    public int north(int t) {
        Text text = textOf(t);
        if (text == null) {
            return BAD;
        }
        if (!text.there) {
            return found(NOTHING);
        }
        if (reading.faultIn(text) != NONE) {
            return STATE;
        }
        north.settle(reading);
        for (int k = 0; k < KEPT; k++) {
            North place = keptOf(k);
            if (place != null) {
                place.men = 0;
            }
        }
        return north.men;
    }

    public int man(int i, int what) {
        if (!north.isMan(i) || what < 0 || what >= MAN_TELLS) {
            return BAD;
        }
        return tell(north.tellsOf(i, what));
    }

    public int mark(int i, int kind) {
        if (!north.isMan(i) || kind <= 0 || kind >= KINDS) {
            return BAD;
        }
        if (!isOfKind(read(north.kindOf, i), kind)) {
            return found(UNLIKE);
        }
        switch (kind) {
            case HATTED:
                return Math.min(read(north.bulkOf, i), north.meltingIn(i, 0));
            case WED:
                return north.votesAs(i);
            case SUNNY:
                return north.goneIn(i);
            case LAWYER:
                return north.daysByLaw(i);
            default:
                return north.meltingDays(i);
        }
    }

    public int sun(int day) {
        if (day < 0 || day > LAST_SUN) {
            return BAD;
        }
        if (north.men == 0) {
            return STATE;
        }
        return north.sunOn(day);
    }

    public int right(int v) {
        if (v < 1 || v > MOST_RIGHT) {
            return BAD;
        }
        if (north.men == 0) {
            return STATE;
        }
        int was = north.rightNow;
        north.rightNow = v;
        return was;
    }

    // ---- 2 deeds

    public int day() {
        if (north.men == 0) {
            return STATE;
        }
        if (north.deeds >= MOST_DEEDS) {
            return FULL;
        }
        north.act(North.SUNSHINE, 0, 0);
        return Integer.bitCount(north.living());
    }

    public int shade(int i, int v) {
        if (!north.isMan(i) || v < 0 || v > MOST_SHADE) {
            return BAD;
        }
        if (north.deeds >= MOST_DEEDS) {
            return FULL;
        }
        int was = read(north.shadeOf, i);
        north.act(North.SHADING, i, v);
        return was;
    }

    public int snow(int i, int n) {
        if (!north.isMan(i) || n < 1 || n > 9) {
            return BAD;
        }
        if (read(north.bulkOf, i) == 0) {
            return STATE;
        }
        if (north.deeds >= MOST_DEEDS) {
            return FULL;
        }
        north.act(North.SNOWING, i, n);
        return read(north.bulkOf, i);
    }

    public int undo(int n) {
        if (n < 0 || n > north.deeds) {
            return BAD;
        }
        int undone = north.deeds - n;
        north.undoFrom(n);
        return undone;
    }

    public int now() {
        if (north.men == 0) {
            return STATE;
        }
        told = north.living();
        return north.today;
    }

    public int keep(int k) {
        North place = keptOf(k);
        if (place == null) {
            return BAD;
        }
        if (north.men == 0) {
            return STATE;
        }
        place.become(north);
        return place.deeds;
    }

    public int on(int k) {
        North place = keptOf(k);
        if (place == null) {
            return BAD;
        }
        if (place.men == 0) {
            return found(NOTHING);
        }
        north.become(place);
        return north.deeds;
    }

    // ---- 3 foretold

    public int bulk(int i, int n) {
        if (!north.isMan(i) || !isAhead(n)) {
            return BAD;
        }
        return north.bulkIn(i, n);
    }

    public int gone(int i) {
        if (!north.isMan(i)) {
            return BAD;
        }
        return north.goneIn(i);
    }

    public int votes(int n) {
        if (!isAhead(n)) {
            return BAD;
        }
        if (north.men == 0) {
            return STATE;
        }
        int voters = north.votersIn(n);
        int ones = Integer.bitCount(north.onesAmong(voters));
        told = Integer.bitCount(voters) - ones;
        return ones;
    }

    public int carried(int is) {
        if (is != 0 && is != 1) {
            return BAD;
        }
        if (north.men == 0) {
            return STATE;
        }
        north.foreseeVoters(north.rightNow, ahead);
        for (int n = 0; n <= FAR; n++) {
            if (north.isCarriedBy(read(ahead, n)) == (is == 1)) {
                return n;
            }
        }
        return NONE;
    }

    public int days(int n) {
        if (!isAhead(n)) {
            return BAD;
        }
        if (north.men == 0) {
            return STATE;
        }
        north.foreseeVoters(north.rightNow, ahead);
        int sum = 0;
        for (int k = 0; k <= n; k++) {
            if (north.isCarriedBy(read(ahead, k))) {
                sum++;
            }
        }
        return sum;
    }

    public int widow() {
        if (north.men == 0) {
            return STATE;
        }
        int who = NONE;
        int soonest = FAR + 1;
        for (int i = 0; i < north.men; i++) {
            int in = north.goneIn(i);
            if (in > 0 && in < soonest) {
                who = i;
                soonest = in;
            }
        }
        if (who != NONE) {
            told = soonest;
        }
        return who;
    }

    public int heir(int i, int n) {
        if (!north.isMan(i) || !isAhead(n)) {
            return BAD;
        }
        for (int east = i; east < north.men; east++) {
            if (north.bulkIn(east, n) > 0) {
                return east;
            }
        }
        for (int west = i - 1; west >= 0; west--) {
            if (north.bulkIn(west, n) > 0) {
                return west;
            }
        }
        return NONE;
    }

    // ---- 4 the least shade

    public int guard(int set, int n, int r) {
        Row row = rowOf(r);
        if (row == null || !north.isSet(set) || !isAhead(n)) {
            return BAD;
        }
        if (north.men == 0) {
            return STATE;
        }
        int more = 0;
        for (int i = 0; i < north.men; i++) {
            int shadeNow = read(north.shadeOf, i);
            int least = isIn(set, i) ? north.leastGuard(i, n) : shadeNow;
            if (least == NONE) {
                return NONE;
            }
            more += least - shadeNow;
            write(plan, i, least);
        }
        row.take(plan, north.men);
        return more;
    }

    public int bribe(int is, int n, int r) {
        Row row = rowOf(r);
        if (row == null || is != 0 && is != 1 || !isAhead(n)) {
            return BAD;
        }
        if (north.men == 0) {
            return STATE;
        }
        for (int i = 0; i < north.men; i++) {
            write(shadesWith, i, north.nearestShade(i, n, true));
            write(shadesWithout, i, north.nearestShade(i, n, false));
        }
        int fewest = NONE;
        int voters = 0;
        for (int set = 0; set < 1 << north.men; set++) {
            int cost = costOfVoters(set);
            if (cost != NONE && (fewest == NONE || cost < fewest) && north.isCarriedBy(set) == (is == 1)) {
                fewest = cost;
                voters = set;
            }
        }
        if (fewest == NONE) {
            return NONE;
        }
        for (int i = 0; i < north.men; i++) {
            write(plan, i, shadeByVoters(voters, i));
        }
        row.take(plan, north.men);
        return fewest;
    }

    public int carry(int i, int n) {
        if (!north.isMan(i) || !isAhead(n)) {
            return BAD;
        }
        int bulkNow = read(north.bulkOf, i);
        if (bulkNow == 0) {
            return NONE;
        }
        int melted = north.meltedIn(read(north.kindOf, i), read(north.shadeOf, i), n);
        for (int more = 0; more <= MOST_BULK - bulkNow; more++) {
            if (north.hasRight(i, bulkNow + more - melted, north.rightNow)) {
                return more;
            }
        }
        return NONE;
    }

    // ---- 5 the census

    public int census(int r) {
        Row row = rowOf(r);
        if (row == null) {
            return BAD;
        }
        if (north.men == 0) {
            return STATE;
        }
        north.foreseeLiving(ahead);
        fillMostCounted();
        int done = 0;
        for (int place = 0; place < north.men; place++) {
            int next = nextCounted(done);
            write(plan, place, next);
            done |= 1 << next;
        }
        row.take(plan, north.men);
        return read(mostCounted, 0);
    }

    public int counted(int r) {
        Row row = rowOf(r);
        if (row == null) {
            return BAD;
        }
        if (north.men == 0) {
            return STATE;
        }
        if (!row.there) {
            return found(NOTHING);
        }
        if (row.size != north.men) {
            return found(SIZE);
        }
        north.foreseeLiving(ahead);
        int done = 0;
        int sum = 0;
        for (int place = 0; place < north.men; place++) {
            int i = read(row.cells, place);
            if (!north.isMan(i) || isIn(done, i)) {
                return found(UNLIKE);
            }
            done |= 1 << i;
            sum += countedOn(i, place);
        }
        return sum;
    }

    // ---- 6 what was seen

    public int fits(int i, int r) {
        int refused = refusalOfSeen(i, r);
        Row row = rowOf(r);
        if (refused != 0 || row == null) {
            return refused;
        }
        north.foreseeMelted(read(north.kindOf, i), read(north.shadeOf, i), ahead);
        int sum = 0;
        int least = NONE;
        for (int size = MOST_BULK; size >= 0; size--) {
            if (isAsSeen(row, size)) {
                sum++;
                least = size;
            }
        }
        told = least;
        return sum;
    }

    public int kinds(int i, int r) {
        int refused = refusalOfSeen(i, r);
        Row row = rowOf(r);
        if (refused != 0 || row == null) {
            return refused;
        }
        int set = 0;
        for (int kind = 0; kind < KINDS; kind++) {
            north.foreseeMelted(kind, read(north.shadeOf, i), ahead);
            if (isAsSeen(row, read(north.bulkOf, i))) {
                set |= 1 << kind;
            }
        }
        return set;
    }

    public int rights(int set) {
        if (!north.isSet(set)) {
            return BAD;
        }
        int which = 0;
        for (int v = 1; v <= MOST_RIGHT; v++) {
            if (north.votersBy(v) == set) {
                which |= 1 << v;
            }
        }
        return which;
    }

    // ---- 7 by turns

    public int game(int n) {
        if (n < 0 || n > TURNS) {
            return BAD;
        }
        if (north.men == 0) {
            return STATE;
        }
        game.prepare(north);
        return Game.endsCarried(game, 2 * n) ? 1 : 0;
    }

    public int first(int n) {
        if (n < 1 || n > TURNS) {
            return BAD;
        }
        if (north.men == 0) {
            return STATE;
        }
        game.prepare(north);
        return game.winningMove(2 * n);
    }

    // ---- 8 clouds, lots

    public int odds(int i, int n, int p) {
        if (!north.isMan(i) || n < 0 || n > CLOUD_DAYS || p < 0 || p > TWELVE) {
            return BAD;
        }
        clouds.weigh(north, i, n, p);
        tellChance(clouds.waysToLast(), clouds.allWays);
        return 1;
    }

    public int mid(int i, int n, int p) {
        if (!north.isMan(i) || n < 0 || n > CLOUD_DAYS || p < 0 || p > TWELVE) {
            return BAD;
        }
        clouds.weigh(north, i, n, p);
        tellChance(clouds.bulkOfWays(), clouds.allWays);
        return 1;
    }

    public int lots(int n, int p, int seed) {
        if (n < 1 || n > LOT_DAYS || p < 0 || p > TWELVE || seed < 1 || seed > 2147483646) {
            return BAD;
        }
        if (north.men == 0) {
            return STATE;
        }
        if (north.deeds + n > MOST_DEEDS) {
            return FULL;
        }
        long lot = seed;
        for (int k = 0; k < n; k++) {
            lot = lot * 48271L % 2147483647L;
            north.act(lot % TWELVE < p ? North.CLOUD : North.SUNSHINE, 0, 0);
        }
        return Integer.bitCount(north.living());
    }

    // ---- 9 what is told

    public int asked() {
        return told;
    }

    public long upper() {
        return upperNumber;
    }

    public long lower() {
        return lowerNumber;
    }

    public int count(int what) {
        if (what < 0 || what >= COUNTS) {
            return BAD;
        }
        return countOf(what);
    }

    public int finding() {
        return latestFinding;
    }

    public int findings(int f) {
        if (f < NOTHING || f > SIZE) {
            return BAD;
        }
        return read(findingCounts, f);
    }

    public long digest() {
        long h = 17;
        for (int what = 0; what < COUNTS; what++) {
            h = 31 * h + countOf(what);
        }
        for (int i = 0; i < north.men; i++) {
            for (int what = 0; what < MAN_TELLS; what++) {
                h = 31 * h + north.tellsOf(i, what);
            }
        }
        for (int k = 0; k < KEPT; k++) {
            North place = keptOf(k);
            h = 31 * h + (place == null || place.men == 0 ? -1 : place.deeds);
        }
        for (int r = 0; r < ROWS; r++) {
            Row row = rowOf(r);
            h = row == null ? h : row.digestedOnto(h);
        }
        for (int t = 0; t < TEXTS; t++) {
            Text text = textOf(t);
            h = text == null ? h : text.digestedOnto(h);
        }
        return h;
    }

    // ---- what the calls share

    /** The ROW of a number, there or missing; null: there is no such number. */
    private Row rowOf(int r) {
        return r >= 0 && r < rows.length ? rows[r] : null;
    }

    private Text textOf(int t) {
        return t >= 0 && t < texts.length ? texts[t] : null;
    }

    private North keptOf(int k) {
        return k >= 0 && k < kept.length ? kept[k] : null;
    }

    private int found(int what) {
        latestFinding = what;
        write(findingCounts, what, read(findingCounts, what) + 1);
        return FINDING;
    }

    private int tell(int v) {
        told = v;
        return 1;
    }

    private void tellChance(long above, long below) {
        long divisor = commonDivisor(above, below);
        if (divisor > 0) {
            upperNumber = above / divisor;
            lowerNumber = below / divisor;
        }
    }

    private static long commonDivisor(long a, long b) {
        // Euclid's steps on numbers below 2^62 are fewer than a hundred.
        for (int step = 0; step < 100 && b != 0; step++) {
            long rest = a % b;
            a = b;
            b = rest;
        }
        return a;
    }

    private int countOf(int what) {
        switch (what) {
            case 0:
                return north.men;
            case 1:
                return north.today;
            case 2:
                return north.rightNow;
            case 3:
                return north.deeds;
            case 4:
                return north.bulkOfAll();
            case 5:
                return north.hattedOnes();
            case 6:
                return rowsThere();
            case 7:
                return textsThere();
            default:
                return keptThere();
        }
    }

    private int rowsThere() {
        int sum = 0;
        for (int r = 0; r < ROWS; r++) {
            Row row = rowOf(r);
            if (row != null && row.there) {
                sum++;
            }
        }
        return sum;
    }

    private int textsThere() {
        int sum = 0;
        for (int t = 0; t < TEXTS; t++) {
            Text text = textOf(t);
            if (text != null && text.there) {
                sum++;
            }
        }
        return sum;
    }

    private int keptThere() {
        int sum = 0;
        for (int k = 0; k < KEPT; k++) {
            North place = keptOf(k);
            if (place != null && place.men > 0) {
                sum++;
            }
        }
        return sum;
    }

    /** The SHADES more or less by which just a set has the RIGHT; NONE: by none. */
    private int costOfVoters(int set) {
        int sum = 0;
        for (int i = 0; i < north.men; i++) {
            int due = shadeByVoters(set, i);
            if (due == NONE) {
                return NONE;
            }
            sum += Math.abs(due - read(north.shadeOf, i));
        }
        return sum;
    }

    private int shadeByVoters(int set, int i) {
        return read(isIn(set, i) ? shadesWith : shadesWithout, i);
    }

    /** Of each set of MEN who have had their turn: the most of the others that can be counted still. */
    private void fillMostCounted() {
        for (int done = (1 << north.men) - 1; done >= 0; done--) {
            int most = 0;
            for (int i = 0; i < north.men; i++) {
                if (!isIn(done, i)) {
                    most = Math.max(most, countedFrom(done, i));
                }
            }
            write(mostCounted, done, most);
        }
    }

    /** The least number that may come next without fewer being counted in all. */
    private int nextCounted(int done) {
        int most = read(mostCounted, done);
        for (int i = 0; i < north.men; i++) {
            if (!isIn(done, i) && countedFrom(done, i) == most) {
                return i;
            }
        }
        return 0;
    }

    /** How many can be counted at most from now on, if a MAN comes next. */
    private int countedFrom(int done, int i) {
        return countedOn(i, Integer.bitCount(done)) + read(mostCounted, done | 1 << i);
    }

    /** 1, if a MAN is counted on a DAY, by who is not GONE then; else 0. */
    private int countedOn(int i, int n) {
        return isIn(read(ahead, n), i) ? 1 : 0;
    }

    /** By what pairs that were seen of a MAN are refused; 0: they are not. */
    private int refusalOfSeen(int i, int r) {
        Row row = rowOf(r);
        if (row == null || !north.isMan(i)) {
            return BAD;
        }
        if (!row.there) {
            return found(NOTHING);
        }
        if (row.size % 2 != 0) {
            return found(SIZE);
        }
        for (int place = 0; place + 1 < row.size; place += 2) {
            int seen = read(row.cells, place + 1);
            if (!isAhead(read(row.cells, place)) || seen < 0 || seen > MOST_BULK) {
                return found(UNLIKE);
            }
        }
        return 0;
    }

    /** Whether a BULK now leads to all that was seen, by what melts ahead. */
    private boolean isAsSeen(Row row, int size) {
        for (int place = 0; place + 1 < row.size; place += 2) {
            int then = Math.max(0, size - read(ahead, read(row.cells, place)));
            if (then != read(row.cells, place + 1)) {
                return false;
            }
        }
        return true;
    }

    private static boolean isAhead(int n) {
        return n >= 0 && n <= FAR;
    }

    private static boolean isIn(int set, int i) {
        return (set >> i & 1) == 1;
    }

    private static boolean isOfKind(int kind, int of) {
        return kind == of || of == HATTED && (kind == LAWYER || kind == ICED);
    }

    // All places of rows are read and written here, so that no place beyond a row is ever used.

    private static int read(int[] cells, int i) {
        return i >= 0 && i < cells.length ? cells[i] : 0;
    }

    private static void write(int[] cells, int i, int v) {
        if (i >= 0 && i < cells.length) {
            cells[i] = v;
        }
    }

    private static void writeAll(int[] cells, int[] from) {
        for (int i = 0; i < cells.length && i < from.length; i++) {
            cells[i] = from[i];
        }
    }

    /** A ROW of ints, there or missing. */
    private static final class Row {
        boolean there;
        int size;
        final int[] cells = new int[ROW_SIZE];

        void renew(int n) {
            there = true;
            size = n;
            for (int i = 0; i < cells.length; i++) {
                cells[i] = 0;
            }
        }

        void take(int[] from, int n) {
            there = true;
            size = n;
            writeAll(cells, from);
        }

        boolean reaches(int i, int n) {
            return i >= 0 && n >= 0 && size <= cells.length && i <= size - n;
        }

        long sum() {
            long sum = 0;
            for (int i = 0; i < size; i++) {
                sum += read(cells, i);
            }
            return sum;
        }

        long digestedOnto(long h) {
            if (!there) {
                return 31 * h - 1;
            }
            long sum = 31 * h + size;
            for (int i = 0; i < size; i++) {
                sum = 31 * sum + read(cells, i);
            }
            return sum;
        }
    }

    /** A TEXT of bytes, there or missing. */
    private static final class Text {
        static final int BLANK = 32;

        boolean there;
        int size;
        final byte[] signs = new byte[TEXT_SIZE];

        void renew(int n) {
            there = true;
            size = n;
            for (int i = 0; i < signs.length; i++) {
                signs[i] = BLANK;
            }
        }

        int sign(int i) {
            return i >= 0 && i < signs.length ? signs[i] : 0;
        }

        void change(int i, byte v) {
            if (i >= 0 && i < signs.length) {
                signs[i] = v;
            }
        }

        long digestedOnto(long h) {
            if (!there) {
                return 31 * h - 1;
            }
            long sum = 31 * h + size;
            for (int i = 0; i < size; i++) {
                sum = 31 * sum + sign(i);
            }
            return sum;
        }
    }

    /** A TEXT being read as a NORTH, sign by sign; what was read stays till the next one. */
    private static final class Reading {
        // What comes next. The SUN's figures are 1 .. 8; a letter, or a blank, comes at START and BETWEEN.
        private static final int START = 0, RIGHT = 9, BETWEEN = 10, TENS = 11, UNITS = 12, SHADE = 13, VOTE = 14;

        private int stage;
        int men;
        int right;
        final int[] suns = new int[SUNS];
        final int[] kindOf = new int[MOST_MEN];
        final int[] bulkOf = new int[MOST_MEN];
        final int[] shadeOf = new int[MOST_MEN];
        final int[] voteOf = new int[MOST_MEN];

        int faultIn(Text text) {
            stage = START;
            men = 0;
            for (int place = 0; place < text.size; place++) {
                if (!takes(text.sign(place))) {
                    return place;
                }
            }
            return stage == BETWEEN && men > 0 ? NONE : text.size;
        }

        private boolean takes(int sign) {
            if (stage == START || stage == BETWEEN) {
                return sign == Text.BLANK || (stage == START ? takesSun(sign) : takesLetter(sign));
            }
            int figure = sign - '0';
            return figure >= 0 && figure <= 9 && takesFigure(figure);
        }

        private boolean takesSun(int sign) {
            if (sign != 'z') {
                return false;
            }
            stage = 1;
            return true;
        }

        private boolean takesLetter(int sign) {
            int kind = kindBy(sign);
            if (kind == NONE || men >= MOST_MEN) {
                return false;
            }
            write(kindOf, men, kind);
            stage = TENS;
            return true;
        }

        private static int kindBy(int sign) {
            switch (sign) {
                case 'm':
                    return 0;
                case 'h':
                    return HATTED;
                case 'w':
                    return WED;
                case 's':
                    return SUNNY;
                case 'l':
                    return LAWYER;
                case 'i':
                    return ICED;
                default:
                    return NONE;
            }
        }

        private boolean takesFigure(int figure) {
            boolean fine = true;
            switch (stage) {
                case RIGHT:
                    fine = figure > 0;
                    right = figure;
                    break;
                case TENS:
                    write(bulkOf, men, 10 * figure);
                    break;
                case UNITS:
                    write(bulkOf, men, read(bulkOf, men) + figure);
                    fine = read(bulkOf, men) > 0;
                    break;
                case SHADE:
                    write(shadeOf, men, figure);
                    break;
                case VOTE:
                    fine = figure <= 1;
                    write(voteOf, men, figure);
                    men++;
                    break;
                default:
                    write(suns, stage - 1, figure);
                    break;
            }
            stage = stage == VOTE ? BETWEEN : stage + 1;
            return fine;
        }
    }

    /** A NORTH: its MEN, the DAY, the RIGHT, and the DEEDS since it was read. Without MEN it is none. */
    private static final class North {
        static final int SUNSHINE = 0, CLOUD = 1, SHADING = 2, SNOWING = 3;

        int men;
        int rightNow;
        int today;
        int deeds;
        final int[] suns = new int[SUNS];
        final int[] kindOf = new int[MOST_MEN];
        final int[] voteOf = new int[MOST_MEN];
        final int[] bulkOf = new int[MOST_MEN];
        final int[] shadeOf = new int[MOST_MEN];
        // As they were read, so that DEEDS can be undone by doing again those ahead.
        private final int[] firstBulkOf = new int[MOST_MEN];
        private final int[] firstShadeOf = new int[MOST_MEN];
        private final int[] deedSorts = new int[MOST_DEEDS];
        private final int[] deedMen = new int[MOST_DEEDS];
        private final int[] deedValues = new int[MOST_DEEDS];

        void settle(Reading from) {
            men = from.men;
            rightNow = from.right;
            writeAll(suns, from.suns);
            writeAll(kindOf, from.kindOf);
            writeAll(voteOf, from.voteOf);
            writeAll(firstBulkOf, from.bulkOf);
            writeAll(firstShadeOf, from.shadeOf);
            deeds = 0;
            restart();
        }

        /** As it was read, ahead of all DEEDS. */
        private void restart() {
            today = 0;
            writeAll(bulkOf, firstBulkOf);
            writeAll(shadeOf, firstShadeOf);
        }

        void become(North other) {
            men = other.men;
            rightNow = other.rightNow;
            today = other.today;
            deeds = other.deeds;
            writeAll(suns, other.suns);
            writeAll(kindOf, other.kindOf);
            writeAll(voteOf, other.voteOf);
            writeAll(bulkOf, other.bulkOf);
            writeAll(shadeOf, other.shadeOf);
            writeAll(firstBulkOf, other.firstBulkOf);
            writeAll(firstShadeOf, other.firstShadeOf);
            writeAll(deedSorts, other.deedSorts);
            writeAll(deedMen, other.deedMen);
            writeAll(deedValues, other.deedValues);
        }

        boolean isMan(int i) {
            return i >= 0 && i < men;
        }

        boolean isSet(int set) {
            return set >= 0 && set < 1 << men;
        }

        void act(int sort, int i, int v) {
            write(deedSorts, deeds, sort);
            write(deedMen, deeds, i);
            write(deedValues, deeds, v);
            deeds++;
            perform(sort, i, v);
        }

        void undoFrom(int n) {
            deeds = n;
            restart();
            for (int k = 0; k < n; k++) {
                perform(read(deedSorts, k), read(deedMen, k), read(deedValues, k));
            }
        }

        private void perform(int sort, int i, int v) {
            switch (sort) {
                case SHADING:
                    write(shadeOf, i, v);
                    break;
                case SNOWING:
                    write(bulkOf, i, Math.min(MOST_BULK, read(bulkOf, i) + v));
                    break;
                case SUNSHINE:
                    meltAll();
                    today++;
                    break;
                default:
                    today++;
                    break;
            }
        }

        private void meltAll() {
            for (int i = 0; i < men; i++) {
                write(bulkOf, i, Math.max(0, read(bulkOf, i) - meltingIn(i, 0)));
            }
        }

        int sunOn(int day) {
            return read(suns, day % SUNS);
        }

        /** By how much one of a KIND MELTS on a DAY, as if it had BULK enough. */
        private int melting(int kind, int shadeThen, int day) {
            int plain = Math.max(0, read(suns, day % SUNS) - shadeThen);
            switch (kind) {
                case WED:
                    return plain / 2;
                case SUNNY:
                    return plain + 1;
                case HATTED:
                case LAWYER:
                    return Math.max(0, plain - 1);
                case ICED:
                    return day % 2 == 0 ? 0 : Math.max(0, plain - 1);
                default:
                    return plain;
            }
        }

        /** By how much a MAN MELTS on the DAY that is n from now, as if it had BULK enough. */
        int meltingIn(int i, int n) {
            return melting(read(kindOf, i), read(shadeOf, i), today + n);
        }

        /** By how much one of a KIND MELTS on n DAYS from now on: ahead of the last BULK this adds up. */
        int meltedIn(int kind, int shadeThen, int n) {
            int sum = 0;
            for (int k = 0; k < n; k++) {
                sum += melting(kind, shadeThen, today + k);
            }
            return sum;
        }

        /** To each number of DAYS: by how much one of a KIND MELTS on as many. */
        void foreseeMelted(int kind, int shadeThen, int[] melted) {
            int sum = 0;
            for (int n = 0; n <= FAR; n++) {
                write(melted, n, sum);
                sum += melting(kind, shadeThen, today + n);
            }
        }

        int bulkIn(int i, int n) {
            return bulkBy(i, read(shadeOf, i), n);
        }

        private int bulkBy(int i, int shadeThen, int n) {
            return Math.max(0, read(bulkOf, i) - meltedIn(read(kindOf, i), shadeThen, n));
        }

        int goneIn(int i) {
            int rest = read(bulkOf, i);
            for (int n = 0; n <= FAR; n++) {
                if (rest <= 0) {
                    return n;
                }
                rest -= meltingIn(i, n);
            }
            return NONE;
        }

        /** Who is not GONE: who has the RIGHT, if that is as low as can be. */
        int living() {
            return votersBy(1);
        }

        /** Whether a MAN with a BULK has the RIGHT, if that is v. */
        boolean hasRight(int i, int size, int v) {
            return size >= v || size > 0 && read(kindOf, i) == LAWYER;
        }

        boolean hasRightBy(int i, int shadeThen, int n) {
            return hasRight(i, bulkBy(i, shadeThen, n), rightNow);
        }

        /** Who has the RIGHT now, if that is v. */
        int votersBy(int v) {
            int set = 0;
            for (int i = 0; i < men; i++) {
                if (hasRight(i, read(bulkOf, i), v)) {
                    set |= 1 << i;
                }
            }
            return set;
        }

        int votersIn(int n) {
            int set = 0;
            for (int i = 0; i < men; i++) {
                if (hasRightBy(i, read(shadeOf, i), n)) {
                    set |= 1 << i;
                }
            }
            return set;
        }

        /** To each number of DAYS from now: who is not GONE then. */
        void foreseeLiving(int[] living) {
            foreseeVoters(1, living);
        }

        /** To each number of DAYS from now: who has the RIGHT then, if that is v. */
        void foreseeVoters(int v, int[] voters) {
            for (int n = 0; n <= FAR; n++) {
                write(voters, n, 0);
            }
            for (int i = 0; i < men; i++) {
                int rest = read(bulkOf, i);
                for (int n = 0; n <= FAR; n++) {
                    if (hasRight(i, rest, v)) {
                        write(voters, n, read(voters, n) | 1 << i);
                    }
                    rest -= meltingIn(i, n);
                }
            }
        }

        /** Who votes 1 of those who have the RIGHT. */
        int onesAmong(int voters) {
            int ones = 0;
            for (int i = 0; i < men; i++) {
                if (isIn(voters, i) && votesOne(i, voters, ones)) {
                    ones |= 1 << i;
                }
            }
            return ones;
        }

        /** Whether a MAN votes 1, if it is told who does so to the west. */
        private boolean votesOne(int i, int voters, int ones) {
            int kind = read(kindOf, i);
            if (kind == SUNNY) {
                return true;
            }
            if (kind == WED && i > 0 && isIn(voters, i - 1)) {
                return isIn(ones, i - 1);
            }
            return read(voteOf, i) == 1;
        }

        boolean isCarriedBy(int voters) {
            return 2 * Integer.bitCount(onesAmong(voters)) > Integer.bitCount(voters);
        }

        /** What man() tells of a MAN. */
        int tellsOf(int i, int what) {
            switch (what) {
                case 0:
                    return read(kindOf, i);
                case 1:
                    return read(bulkOf, i);
                case 2:
                    return read(shadeOf, i);
                case 3:
                    return read(voteOf, i);
                case 4:
                    return isIn(votersBy(rightNow), i) ? 1 : 0;
                default:
                    return voteNow(i);
            }
        }

        private int voteNow(int i) {
            int voters = votersBy(rightNow);
            if (!isIn(voters, i)) {
                return NONE;
            }
            return isIn(onesAmong(voters), i) ? 1 : 0;
        }

        /** As which MAN a WED one votes now. */
        int votesAs(int i) {
            int voters = votersBy(rightNow);
            if (!isIn(voters, i)) {
                return NONE;
            }
            return i > 0 && isIn(voters, i - 1) ? i - 1 : i;
        }

        /** On how many of 60 DAYS from now on a LAWYER votes with a BULK below the RIGHT. */
        int daysByLaw(int i) {
            int sum = 0;
            int rest = read(bulkOf, i);
            for (int n = 0; n < FAR; n++) {
                if (rest > 0 && rest < rightNow) {
                    sum++;
                }
                rest -= meltingIn(i, n);
            }
            return sum;
        }

        /** On how many of 8 DAYS from now on a MAN MELTS. */
        int meltingDays(int i) {
            int sum = 0;
            for (int n = 0; n < SUNS; n++) {
                if (meltingIn(i, n) > 0) {
                    sum++;
                }
            }
            return sum;
        }

        /** The least SHADE, no less than now, by which a MAN is not GONE n DAYS from now; NONE: by none. */
        int leastGuard(int i, int n) {
            for (int v = read(shadeOf, i); v <= MOST_SHADE; v++) {
                if (bulkBy(i, v, n) > 0) {
                    return v;
                }
            }
            return NONE;
        }

        /** The SHADE nearest to that now, of two the lesser, by which a MAN has the RIGHT then or has not. */
        int nearestShade(int i, int n, boolean has) {
            int shadeNow = read(shadeOf, i);
            for (int far = 0; far <= MOST_SHADE; far++) {
                if (shadeNow - far >= 0 && hasRightBy(i, shadeNow - far, n) == has) {
                    return shadeNow - far;
                }
                if (shadeNow + far <= MOST_SHADE && hasRightBy(i, shadeNow + far, n) == has) {
                    return shadeNow + far;
                }
            }
            return NONE;
        }

        int bulkOfAll() {
            int sum = 0;
            for (int i = 0; i < men; i++) {
                sum += read(bulkOf, i);
            }
            return sum;
        }

        int hattedOnes() {
            int sum = 0;
            for (int i = 0; i < men; i++) {
                if (isOfKind(read(kindOf, i), HATTED)) {
                    sum++;
                }
            }
            return sum;
        }
    }

    /** The SHADES while two parties let them by turns. A move is 2 times the MAN, and 1 more for less SHADE. */
    private static final class Game {
        private int men;
        private int voters;
        /** Bits: by which sets of voters the motion is CARRIED. */
        private long carriedBy;
        private final int[] shadeOf = new int[MOST_MEN];
        /** Of each MAN, as bits, the SHADES by which it has the RIGHT at the vote. */
        private final int[] rightBy = new int[MOST_MEN];

        void prepare(North north) {
            men = north.men;
            voters = 0;
            for (int i = 0; i < men; i++) {
                int set = 0;
                for (int v = 0; v <= MOST_SHADE; v++) {
                    if (north.hasRightBy(i, v, GAME_DAYS)) {
                        set |= 1 << v;
                    }
                }
                write(rightBy, i, set);
                place(i, read(north.shadeOf, i));
            }
            carriedBy = 0;
            for (int set = 0; set < 1 << men; set++) {
                if (north.isCarriedBy(set)) {
                    carriedBy |= 1L << set;
                }
            }
        }

        private void place(int i, int v) {
            write(shadeOf, i, v);
            voters = isIn(read(rightBy, i), v) ? voters | 1 << i : voters & ~(1 << i);
        }

        /** Makes a move, if it keeps to the SHADES that there are. */
        private boolean makes(int move) {
            int i = move / 2;
            int v = read(shadeOf, i) + (move % 2 == 0 ? 1 : -1);
            if (v < 0 || v > MOST_SHADE) {
                return false;
            }
            place(i, v);
            return true;
        }

        /** Whether the motion is CARRIED after some more turns (2 times each at most): even, the one of 1 is on. */
        private static boolean endsCarried(Game game, int turns) {
            if (turns <= 0 || turns > 2 * TURNS) {
                return (game.carriedBy >>> game.voters & 1) == 1;
            }
            boolean wanted = turns % 2 == 0;
            for (int move = 0; move < 2 * game.men; move++) {
                if (game.makes(move)) {
                    boolean ends = endsCarried(game, turns - 1);
                    game.makes(move ^ 1);
                    if (ends == wanted) {
                        return wanted;
                    }
                }
            }
            return !wanted;
        }

        int winningMove(int turns) {
            for (int move = 0; move < 2 * men; move++) {
                if (makes(move)) {
                    boolean ends = endsCarried(this, turns - 1);
                    makes(move ^ 1);
                    if (ends) {
                        return move;
                    }
                }
            }
            return NONE;
        }
    }

    /** Of each BULK, by how many of all ways (12 a DAY) a MAN comes to it. */
    private static final class Clouds {
        private final long[] ways = new long[MOST_BULK + 1];
        private final long[] next = new long[MOST_BULK + 1];
        long allWays;

        void weigh(North north, int i, int n, int p) {
            clear(ways);
            add(ways, read(north.bulkOf, i), 1);
            allWays = 1;
            for (int k = 0; k < n; k++) {
                pass(north.meltingIn(i, k), p);
                allWays *= TWELVE;
            }
        }

        private void pass(int melting, int p) {
            clear(next);
            for (int size = 0; size < ways.length; size++) {
                add(next, size, ways[size] * p);
                add(next, Math.max(0, size - melting), ways[size] * (TWELVE - p));
            }
            for (int size = 0; size < ways.length && size < next.length; size++) {
                ways[size] = next[size];
            }
        }

        private static void clear(long[] cells) {
            for (int i = 0; i < cells.length; i++) {
                cells[i] = 0;
            }
        }

        private static void add(long[] cells, int i, long v) {
            if (i >= 0 && i < cells.length) {
                cells[i] += v;
            }
        }

        long waysToLast() {
            long sum = 0;
            for (int size = 1; size < ways.length; size++) {
                sum += ways[size];
            }
            return sum;
        }

        long bulkOfWays() {
            long sum = 0;
            for (int size = 1; size < ways.length; size++) {
                sum += size * ways[size];
            }
            return sum;
        }
    }
}
