import java.util.Arrays;

/** Friezes and cut polygons, as ../shared/DOC.md promises them. */
public final class FriezePolygons {
    public static final int NONE = -1000000, BAD = -1000001, STATE = -1000002, FULL = -1000003;

    private static final int MISSING = 1, NO_PLACE = 2, NO_SUCH_KIND = 3, FEWER_THAN_NONE = 4, TWO_LANES = 5,
            OVER = 6;
    private static final int FINDINGS = -1000010, FAULTS = -1000100;
    private static final int ROWS = 8, ITEMS = 40, IMAGES = 2, LANES = 3;
    private static final int FEWEST_CORNERS = 4, MOST_CORNERS = 9, MOST_CUTS = 27;
    private static final int PLAIN = 1, TWOFOLD = 2, MINUS = 3, FIXED = 4, OPEN = 5;
    private static final int MOST_OWN = 9, LAST_OF_FRIEZE = 20;
    private static final int MOST_COUNTED = 99, MOST_YEARS = 60, MOST_SEED = 999999, TENTHS = 10;

    /** In how many ways a piece can be cut into triangles, by how many corners it has. */
    private static final int[] WAYS_OF = {0, 0, 1, 1, 2, 5, 14, 42, 132, 429};

    private final Row[] rows = new Row[ROWS];
    private final Tape tape = new Tape();
    private final Figure now = new Figure();
    private final Figure trial = new Figure();
    private final Figure[] images = new Figure[IMAGES];
    private final Ring ring = new Ring();
    private final Acts acts = new Acts();
    private final Frieze grown = new Frieze();
    private final Ears ears = new Ears();
    private final FlipSearch search = new FlipSearch();
    private final Asks asks = new Asks();
    private final int[] likenesses = new int[2 * MOST_CORNERS];
    private int finding = 0;

    public FriezePolygons() {
        for (int i = 0; i < ROWS; i++) {
            rows[i] = new Row();
        }
        for (int i = 0; i < IMAGES; i++) {
            images[i] = new Figure();
        }
    }

    // ---- rows

    public int row(int row, int lane, int n) {
        if (!isRow(row) || lane < 0 || lane >= LANES || n > ITEMS) {
            return BAD;
        }
        if (n < 0) {
            return found(FEWER_THAN_NONE);
        }
        rows[row].make(lane, n);
        return fine(n);
    }

    public int set(int row, int i, int v) {
        if (!isRow(row)) {
            return BAD;
        }
        int trouble = troubleOf(row, i, 1);
        if (trouble != 0) {
            return found(trouble);
        }
        return fine(rows[row].put(i, v));
    }

    public int copy(int a, int i, int b, int j, int n) {
        if (!isRow(a) || !isRow(b)) {
            return BAD;
        }
        Row source = rows[a];
        Row target = rows[b];
        if (!source.made || !target.made) {
            return found(MISSING);
        }
        if (source.lane != target.lane) {
            return found(TWO_LANES);
        }
        if (!source.holds(i, n) || !target.holds(j, n)) {
            return found(NO_PLACE);
        }
        System.arraycopy(source.items, i, target.items, j, n);
        return fine(n);
    }

    public int drop(int row) {
        if (!isRow(row)) {
            return BAD;
        }
        if (!rows[row].made) {
            return found(MISSING);
        }
        rows[row].made = false;
        return fine(rows[row].length);
    }

    // ---- what is told

    public int feed(int letter) {
        if (letter < 0 || letter > 255) {
            return BAD;
        }
        return tape.take(letter) ? tape.length : FULL;
    }

    public int polygon() {
        if (!tape.read()) {
            return FAULTS - tape.begin;
        }
        putInPlace(tape.draft);
        return now.corners;
    }

    public int fault() {
        return tape.latestFault;
    }

    public int undo() {
        if (acts.kept == 0) {
            return STATE;
        }
        acts.takeBack(now);
        return acts.kept;
    }

    // ---- what is done

    public int cut(int a, int b) {
        int made = ring.numberOf(a, b);
        if (made < 0) {
            return BAD;
        }
        if (!ring.isFree(now.cuts, made)) {
            return STATE;
        }
        layCuts(now.cuts | 1 << made);
        return Integer.bitCount(now.cuts);
    }

    public int join(int cut) {
        if (!ring.isNumber(cut)) {
            return BAD;
        }
        if (!now.hasCut(cut)) {
            return STATE;
        }
        layCuts(now.cuts & ~(1 << cut));
        return Integer.bitCount(now.cuts);
    }

    public int flip(int cut) {
        if (!ring.isNumber(cut)) {
            return BAD;
        }
        int other = ring.flippedOf(now.cuts, cut);
        if (other < 0) {
            return STATE;
        }
        layCuts(now.cuts & ~(1 << cut) | 1 << other);
        return other;
    }

    public int turn(int r) {
        if (r < 1 || r >= now.corners) {
            return BAD;
        }
        layCuts(ring.moved(now.cuts, false, r));
        return now.cuts;
    }

    public int mirror() {
        if (!isThere()) {
            return STATE;
        }
        layCuts(ring.moved(now.cuts, true, 0));
        return now.cuts;
    }

    public int become(int corner, int kind) {
        if (!isCorner(corner) || kind < PLAIN || kind > OPEN) {
            return BAD;
        }
        int before = now.kinds[corner];
        if (before == kind) {
            return STATE;
        }
        acts.keep(Acts.OF_KIND, corner, before);
        now.kinds[corner] = kind;
        return before;
    }

    public int number(int corner, int k) {
        if (!isCorner(corner) || k < 0 || k > MOST_OWN) {
            return BAD;
        }
        int before = now.own[corner];
        acts.keep(Acts.OF_OWN, corner, before);
        now.own[corner] = k;
        return before;
    }

    public int lay(int row) {
        int refusal = refusalOfWhole(row, 0);
        if (refusal != 0) {
            return refusal;
        }
        int cuts = ears.cutsOf(rows[row], 0, ring);
        if (cuts >= 0) {
            layCuts(cuts);
        }
        return fine(cuts >= 0 ? cuts : NONE);
    }

    public int corner(int corner, int what) {
        if (!isCorner(corner)) {
            return BAD;
        }
        switch (what) {
            case 0:
                return now.countOf(corner, ring);
            case 1:
                return now.own[corner];
            case 2:
                return ring.cutsAt(now.cuts, corner);
            case 3:
                return ring.endsOf(now.cuts, corner);
            default:
                return BAD;
        }
    }

    public int cutOf(int cut, int what) {
        if (!ring.isNumber(cut)) {
            return BAD;
        }
        switch (what) {
            case 0:
                return ring.from[cut];
            case 1:
                return ring.to[cut];
            case 2:
                return now.hasCut(cut) ? 1 : 0;
            case 3:
                int other = ring.flippedOf(now.cuts, cut);
                return other >= 0 ? other : NONE;
            default:
                return BAD;
        }
    }

    // ---- friezes

    public long frieze(int corner, int k) {
        if (!isCorner(corner) || k < 0 || k > LAST_OF_FRIEZE) {
            return BAD;
        }
        grown.tellCounts(now, ring);
        if (!grown.grow(corner, k)) {
            return found(OVER);
        }
        finding = 0;
        return grown.numbers[k];
    }

    public int whole(int what) {
        if (!isThere()) {
            return STATE;
        }
        grown.tellCounts(now, ring);
        switch (what) {
            case 0:
                return Integer.bitCount(now.cuts);
            case 1:
                return now.cuts;
            case 2:
                return Integer.bitCount(now.cuts) + 1;
            case 3:
                return grown.closes() ? 1 : 0;
            case 4:
                return grown.period();
            case 5:
                return grown.cornersWith(true);
            case 6:
                return grown.cornersWith(false);
            case 7:
                return isTriangled() ? 1 : 0;
            case 8:
                return ring.numbers;
            default:
                return BAD;
        }
    }

    public int piece(int corner) {
        return isCorner(corner) ? ring.pieceAt(now.cuts, corner) : BAD;
    }

    public int back(int row, int i) {
        int refusal = refusalOfWhole(row, i);
        if (refusal != 0) {
            return refusal;
        }
        int cuts = ears.cutsOf(rows[row], i, ring);
        return fine(cuts >= 0 ? cuts : NONE);
    }

    // ---- foretold

    public int ways() {
        if (!isThere()) {
            return STATE;
        }
        return ring.waysToTriangles(now.cuts);
    }

    public int likes(int what) {
        if (!isThere()) {
            return STATE;
        }
        if (what != 0 && what != 1) {
            return BAD;
        }
        int unlike = gatherLikenesses();
        return what == 0 ? leastOf(unlike) : unlike;
    }

    public int flips(int row) {
        int refusal = refusalOfWhole(row, 0);
        if (refusal != 0) {
            return refusal;
        }
        int goal = ears.cutsOf(rows[row], 0, ring);
        if (goal < 0 || !isTriangled()) {
            return fine(NONE);
        }
        return fine(search.fewest(ring, now.cuts, goal));
    }

    public int sets(int v, int what) {
        if (!isThere()) {
            return STATE;
        }
        if (v < -MOST_COUNTED || v > MOST_COUNTED || what < 0 || what > 2) {
            return BAD;
        }
        grown.tellCounts(now, ring);
        int everyCorner = (1 << now.corners) - 1;
        int many = 0;
        int inAll = everyCorner;
        int inAny = 0;
        for (int some = 0; some <= everyCorner; some++) {
            if (grown.sumOf(some) == v) {
                many++;
                inAll &= some;
                inAny |= some;
            }
        }
        if (what == 0) {
            return many;
        }
        return what == 2 ? inAny : many == 0 ? 0 : inAll;
    }

    public int who(int corner, int which, int row, int i, int m) {
        if (!isCorner(corner) || which < 0 || which > 2 || !isRow(row) || m < 1 || m > now.corners) {
            return BAD;
        }
        int trouble = troubleOf(row, i, m);
        if (trouble != 0) {
            return found(trouble);
        }
        switch (which) {
            case 0:
                return fine(kindsBy(corner, rows[row], i, m));
            case 1:
                return fine(ownBy(corner, rows[row], i, m));
            default:
                return fine(cutsBy(rows[row], i, m));
        }
    }

    public long lost(int v, int p, int what) {
        if (!isThere()) {
            return STATE;
        }
        if (v < 3 || v > MOST_CORNERS || p < 0 || p > TENTHS || what < 0 || what > 1) {
            return BAD;
        }
        int many = Integer.bitCount(now.cuts);
        long above = casesWithout(v, p);
        long below = power(TENTHS, many);
        long shared = sharedBy(above, below);
        if (shared == 0) {
            return BAD;
        }
        return what == 0 ? above / shared : below / shared;
    }

    public int drawn(int n, int seed, int what) {
        if (!isThere()) {
            return STATE;
        }
        if (n < 0 || n > MOST_YEARS || seed < 1 || seed > MOST_SEED || what < 0 || what > 1) {
            return BAD;
        }
        int cuts = now.cuts;
        int many = Integer.bitCount(cuts);
        int done = 0;
        long x = seed;
        for (int year = 0; year < n; year++) {
            x = x * 16807L % 2147483647L;
            int chosen = many > 0 ? ring.rising(cuts, (int) (x % many)) : -1;
            int other = ring.isNumber(chosen) ? ring.flippedOf(cuts, chosen) : -1;
            if (other >= 0) {
                cuts = cuts & ~(1 << chosen) | 1 << other;
                done++;
            }
        }
        return what == 0 ? done : cuts;
    }

    public int image(int k) {
        if (k < 0 || k >= IMAGES) {
            return BAD;
        }
        if (!isThere()) {
            return STATE;
        }
        images[k].take(now);
        return 1;
    }

    public int restore(int k) {
        if (k < 0 || k >= IMAGES) {
            return BAD;
        }
        if (images[k].corners == 0) {
            return STATE;
        }
        putInPlace(images[k]);
        return 1;
    }

    // ---- asked

    public int kind(int one) {
        return isCorner(one) ? now.kinds[one] : BAD;
    }

    public int as(int one, int kind) {
        if (!isCorner(one) || kind < 0 || kind > OPEN) {
            return BAD;
        }
        return isOf(now.kinds[one], kind) ? fine(one) : found(NO_SUCH_KIND);
    }

    public int ask(int one, int what) {
        if (!isCorner(one) || what < 0 || what > 1) {
            return BAD;
        }
        asks.turnTo(one, now.kinds[one], now.countOf(one, ring), ring.cutsAt(now.cuts, one));
        return what == 0 ? asks.size() : asks.mark();
    }

    public int trace(int i) {
        return i >= 0 && i < asks.left ? asks.bodies[i] : NONE;
    }

    public int count(int what) {
        switch (what) {
            case 0:
                return rowsMade();
            case 1:
                return now.corners;
            case 2:
                return Integer.bitCount(now.cuts);
            case 3:
                grown.tellCounts(now, ring);
                return grown.sumOf((1 << now.corners) - 1);
            case 4:
                return acts.kept;
            case 5:
                return tape.length;
            default:
                return BAD;
        }
    }

    public int status() {
        return finding;
    }

    // ---- what the calls share

    private int found(int number) {
        finding = number;
        return FINDINGS - number;
    }

    private int fine(int answer) {
        finding = 0;
        return answer;
    }

    private boolean isThere() {
        return now.corners > 0;
    }

    private boolean isCorner(int corner) {
        return corner >= 0 && corner < now.corners;
    }

    private boolean isTriangled() {
        return Integer.bitCount(now.cuts) == now.corners - 3;
    }

    private static boolean isRow(int row) {
        return row >= 0 && row < ROWS;
    }

    private static boolean isOf(int kind, int asked) {
        switch (asked) {
            case 0:
                return true;
            case PLAIN:
                return kind == PLAIN || kind == TWOFOLD || kind == MINUS;
            case FIXED:
                return kind == FIXED || kind == OPEN;
            default:
                return kind == asked;
        }
    }

    /** The finding, if n items from i on can't be taken from a row, else 0. */
    private int troubleOf(int row, int i, int n) {
        if (!rows[row].made) {
            return MISSING;
        }
        return rows[row].holds(i, n) ? 0 : NO_PLACE;
    }

    /** What a call answers that can't have an item for each corner, else 0. */
    private int refusalOfWhole(int row, int i) {
        if (!isThere()) {
            return STATE;
        }
        if (!isRow(row)) {
            return BAD;
        }
        int trouble = troubleOf(row, i, now.corners);
        return trouble != 0 ? found(trouble) : 0;
    }

    private int rowsMade() {
        int many = 0;
        for (int i = 0; i < ROWS; i++) {
            if (rows[i].made) {
                many++;
            }
        }
        return many;
    }

    private void putInPlace(Figure other) {
        now.take(other);
        ring.layOut(now.corners);
        acts.kept = 0;
    }

    private void layCuts(int cuts) {
        acts.keep(Acts.OF_CUTS, 0, now.cuts);
        now.cuts = cuts;
    }

    private int gatherLikenesses() {
        int unlike = 0;
        for (int r = 0; r < now.corners; r++) {
            unlike = noteLikeness(ring.moved(now.cuts, false, r), unlike);
            unlike = noteLikeness(ring.moved(now.cuts, true, r), unlike);
        }
        return unlike;
    }

    private int noteLikeness(int cuts, int unlike) {
        for (int i = 0; i < unlike && i < likenesses.length; i++) {
            if (likenesses[i] == cuts) {
                return unlike;
            }
        }
        if (unlike < 0 || unlike >= likenesses.length) {
            return unlike;
        }
        likenesses[unlike] = cuts;
        return unlike + 1;
    }

    private int leastOf(int unlike) {
        int least = now.cuts;
        for (int i = 0; i < unlike && i < likenesses.length; i++) {
            least = Math.min(least, likenesses[i]);
        }
        return least;
    }

    private int kindsBy(int corner, Row row, int i, int m) {
        trial.take(now);
        int kinds = 0;
        for (int kind = PLAIN; kind <= OPEN; kind++) {
            trial.kinds[corner] = kind;
            if (trial.countsAs(row, i, m, ring)) {
                kinds |= 1 << kind;
            }
        }
        return kinds;
    }

    private int ownBy(int corner, Row row, int i, int m) {
        trial.take(now);
        int numbers = 0;
        for (int k = 0; k <= MOST_OWN; k++) {
            trial.own[corner] = k;
            if (trial.countsAs(row, i, m, ring)) {
                numbers |= 1 << k;
            }
        }
        return numbers;
    }

    private int cutsBy(Row row, int i, int m) {
        trial.take(now);
        int more = 0;
        for (int cut = 0; cut < ring.numbers; cut++) {
            trial.cuts = now.cuts | 1 << cut;
            if (ring.isFree(now.cuts, cut) && trial.countsAs(row, i, m, ring)) {
                more |= 1 << cut;
            }
        }
        return more;
    }

    /** Of ten to the number of cuts, the cases in which no piece has more than v corners. */
    private long casesWithout(int v, int p) {
        int many = Integer.bitCount(now.cuts);
        long cases = 0;
        int kept = now.cuts;
        for (int i = 0; i < 1 << many; i++) {
            if (ring.greatestPiece(kept) <= v) {
                int stay = Integer.bitCount(kept);
                cases += power(p, many - stay) * power(TENTHS - p, stay);
            }
            // the next lesser subset of the cuts
            kept = kept - 1 & now.cuts;
        }
        return cases;
    }

    private static long power(int base, int times) {
        long product = 1;
        for (int i = 0; i < times; i++) {
            product *= base;
        }
        return product;
    }

    /** The greatest common divisor, by which 0 comes to 0 by 1, too. */
    private static long sharedBy(long above, long below) {
        long a = below;
        long b = above;
        for (int i = 0; i < 1000 && b != 0; i++) {
            long rest = a % b;
            a = b;
            b = rest;
        }
        return a;
    }

    /** One of the rows; it is made once, and made anew in place. */
    private static final class Row {
        final int[] items = new int[ITEMS];
        boolean made = false;
        int lane = 0;
        int length = 0;

        void make(int newLane, int n) {
            Arrays.fill(items, 0);
            made = true;
            lane = newLane;
            length = n;
        }

        boolean holds(int i, int n) {
            return i >= 0 && n >= 0 && n <= length && i <= length - n;
        }

        int put(int i, int v) {
            int kept = lane == 0 ? (byte) v : lane == 1 ? (short) v : v;
            if (i >= 0 && i < items.length) {
                items[i] = kept;
            }
            return kept;
        }

        int itemAt(int i) {
            return i >= 0 && i < items.length ? items[i] : 0;
        }
    }

    /** What a polygon is: none as long as it has no corners. */
    private static final class Figure {
        final int[] kinds = new int[MOST_CORNERS];
        final int[] own = new int[MOST_CORNERS];
        int corners = 0;
        int cuts = 0;

        void take(Figure other) {
            System.arraycopy(other.kinds, 0, kinds, 0, MOST_CORNERS);
            System.arraycopy(other.own, 0, own, 0, MOST_CORNERS);
            corners = other.corners;
            cuts = other.cuts;
        }

        boolean hasCut(int cut) {
            return (cuts >> cut & 1) == 1;
        }

        int countOf(int corner, Ring ring) {
            int around = ring.cutsAt(cuts, corner) + 1;
            switch (kinds[corner]) {
                case TWOFOLD:
                    return 2 * around;
                case MINUS:
                    return -around;
                case FIXED:
                    return own[corner];
                case OPEN:
                    return own[corner] + 1;
                default:
                    return around;
            }
        }

        boolean countsAs(Row row, int i, int m, Ring ring) {
            for (int c = 0; c < m && c < corners; c++) {
                if (countOf(c, ring) != row.itemAt(i + c)) {
                    return false;
                }
            }
            return true;
        }
    }

    /** The numbers of all cuts that a number of corners can have, and what bits of cuts mean. */
    private static final class Ring {
        final int[] from = new int[MOST_CUTS];
        final int[] to = new int[MOST_CUTS];
        /** Of each number the bits of the cuts that it crosses. */
        final int[] across = new int[MOST_CUTS];
        /** Of each corner the bits of the cuts at it. */
        final int[] touching = new int[MOST_CORNERS];
        /** Of each corner the bits of the corners that a side or a cut joins to it. */
        final int[] joined = new int[MOST_CORNERS];
        int corners = 0;
        int numbers = 0;

        void layOut(int n) {
            corners = Math.min(n, MOST_CORNERS);
            numbers = 0;
            Arrays.fill(touching, 0);
            for (int a = 0; a < corners; a++) {
                for (int b = a + 2; b < corners; b++) {
                    if (isCut(a, b) && numbers < MOST_CUTS) {
                        from[numbers] = a;
                        to[numbers] = b;
                        touching[a] |= 1 << numbers;
                        touching[b] |= 1 << numbers;
                        numbers++;
                    }
                }
            }
            for (int i = 0; i < numbers; i++) {
                across[i] = crossing(from[i], to[i]);
            }
        }

        private int crossing(int a, int b) {
            int bits = 0;
            for (int i = 0; i < numbers; i++) {
                boolean fromWithin = from[i] > a && from[i] < b;
                boolean toWithin = to[i] > a && to[i] < b;
                boolean apart = from[i] != a && from[i] != b && to[i] != a && to[i] != b;
                if (apart && fromWithin != toWithin) {
                    bits |= 1 << i;
                }
            }
            return bits;
        }

        boolean isNumber(int cut) {
            return cut >= 0 && cut < numbers;
        }

        /** Whether a cut can be between two corners, the lesser first. */
        boolean isCut(int a, int b) {
            return a >= 0 && b < corners && b - a >= 2 && b - a <= corners - 2;
        }

        /** The number of the cut between two corners, in any order; -1, if there can be none. */
        int numberOf(int x, int y) {
            int a = Math.min(x, y);
            int b = Math.max(x, y);
            if (!isCut(a, b)) {
                return -1;
            }
            if (a == 0) {
                return b - 2;
            }
            return corners - 3 + (a - 1) * (corners - 2) - a * (a - 1) / 2 + b - a - 2;
        }

        int bitOf(int x, int y) {
            int number = numberOf(x, y);
            return number < 0 ? 0 : 1 << number;
        }

        boolean isFree(int cuts, int cut) {
            return isNumber(cut) && (cuts & (across[cut] | 1 << cut)) == 0;
        }

        int cutsAt(int cuts, int corner) {
            return corner >= 0 && corner < corners ? Integer.bitCount(cuts & touching[corner]) : 0;
        }

        int endsOf(int cuts, int corner) {
            int ends = 0;
            for (int i = 0; i < numbers; i++) {
                if ((cuts >> i & 1) == 1 && (from[i] == corner || to[i] == corner)) {
                    ends |= 1 << from[i] + to[i] - corner;
                }
            }
            return ends;
        }

        /** The number of the cut that has k others below it; -1, if there is none. */
        int rising(int cuts, int k) {
            int below = 0;
            for (int i = 0; i < numbers; i++) {
                if ((cuts >> i & 1) == 1) {
                    if (below == k) {
                        return i;
                    }
                    below++;
                }
            }
            return -1;
        }

        /** The cuts mirrored, if that is asked for, and then turned by r. */
        int moved(int cuts, boolean mirrored, int r) {
            int bits = 0;
            for (int i = 0; i < numbers; i++) {
                if ((cuts >> i & 1) == 1) {
                    bits |= bitOf(movedCorner(from[i], mirrored, r), movedCorner(to[i], mirrored, r));
                }
            }
            return bits;
        }

        private int movedCorner(int corner, boolean mirrored, int r) {
            int place = (mirrored ? corners - 1 - corner : corner) + r;
            return place >= corners ? place - corners : place;
        }

        /** That which a cut becomes flipped; -1, if it can't be. */
        int flippedOf(int cuts, int cut) {
            if (!isNumber(cut) || (cuts >> cut & 1) == 0) {
                return -1;
            }
            joinCorners(cuts);
            return flippedAsJoined(cut);
        }

        void joinCorners(int cuts) {
            for (int c = 0; c < corners; c++) {
                int next = c + 1 < corners ? c + 1 : 0;
                int last = c > 0 ? c - 1 : corners - 1;
                joined[c] = 1 << next | 1 << last;
            }
            for (int i = 0; i < numbers; i++) {
                if ((cuts >> i & 1) == 1) {
                    joined[from[i]] |= 1 << to[i];
                    joined[to[i]] |= 1 << from[i];
                }
            }
        }

        /** As flippedOf, of a cut that is there, once joinCorners has told the corners of these cuts. */
        int flippedAsJoined(int cut) {
            if (!isNumber(cut)) {
                return -1;
            }
            // as cuts don't cross, a corner that both ends are joined to makes a triangle with them
            int tips = joined[from[cut]] & joined[to[cut]];
            int within = (1 << to[cut]) - (2 << from[cut]);
            int inner = tips & within;
            int outer = tips & ~within;
            if (inner == 0 || outer == 0) {
                return -1;
            }
            return numberOf(lowestOf(inner), lowestOf(outer));
        }

        private static int lowestOf(int bits) {
            for (int c = 0; c < MOST_CORNERS; c++) {
                if ((bits >> c & 1) == 1) {
                    return c;
                }
            }
            return -1;
        }

        /** In how many ways all pieces can be cut into triangles. */
        int waysToTriangles(int cuts) {
            joinCorners(cuts);
            int product = WAYS_OF[sizeUnder(0, corners - 1)];
            for (int i = 0; i < numbers; i++) {
                if ((cuts >> i & 1) == 1) {
                    product *= WAYS_OF[sizeUnder(from[i], to[i])];
                }
            }
            return product;
        }

        /** How many corners the piece has that has the most. */
        int greatestPiece(int cuts) {
            joinCorners(cuts);
            int greatest = sizeUnder(0, corners - 1);
            for (int i = 0; i < numbers; i++) {
                if ((cuts >> i & 1) == 1) {
                    greatest = Math.max(greatest, sizeUnder(from[i], to[i]));
                }
            }
            return greatest;
        }

        /** The piece with the side from a corner to the next: it lies under the shortest cut above the side. */
        int pieceAt(int cuts, int corner) {
            joinCorners(cuts);
            int a = 0;
            int b = corners - 1;
            for (int i = 0; i < numbers; i++) {
                boolean above = from[i] <= corner && to[i] > corner;
                if ((cuts >> i & 1) == 1 && above && to[i] - from[i] < b - a) {
                    a = from[i];
                    b = to[i];
                }
            }
            return pieceUnder(a, b);
        }

        /** How many corners a piece has, as an index of WAYS_OF. */
        private int sizeUnder(int a, int b) {
            return Math.min(Integer.bitCount(pieceUnder(a, b)), MOST_CORNERS);
        }

        /**
         * The corners (bits) of the piece that the cut of a and b, or the side of the first and the last corner,
         * has towards the corners within, once joinCorners has told the corners of these cuts. Each piece lies
         * under just one of these.
         */
        private int pieceUnder(int a, int b) {
            int piece = 1 << a;
            int at = a;
            for (int step = 0; step < MOST_CORNERS && at < b; step++) {
                at = farthest(at, at == a ? b - 1 : b);
                piece |= 1 << at;
            }
            return piece;
        }

        private int farthest(int at, int limit) {
            if (at < 0 || at >= MOST_CORNERS) {
                return limit;
            }
            for (int c = limit; c > at + 1; c--) {
                if ((joined[at] >> c & 1) == 1) {
                    return c;
                }
            }
            return at + 1;
        }
    }

    /** The tape, and how it is read into a draft. */
    private static final class Tape {
        private static final int ROOM = 120;
        /** Tokens are told by their byte, but for these. */
        private static final int NUMBER = 256, END = 257, LONG_RUN = 258;
        private static final int STRANGE = 1, NOT_AS_TOLD = 2, NO_ROOM = 3;

        final Figure draft = new Figure();
        final Ring ring = new Ring();
        final int[] letters = new int[ROOM];
        int length = 0;
        int latestFault = 0;
        /** The first byte of the token, and the one behind its last. */
        int begin = 0;
        int end = 0;
        int token = END;
        int value = 0;

        boolean take(int letter) {
            if (length < 0 || length >= ROOM) {
                return false;
            }
            letters[length] = letter;
            length++;
            return true;
        }

        /** Whether the tape tells a polygon: the draft then; else begin has the place of the fault. */
        boolean read() {
            draft.corners = 0;
            draft.cuts = 0;
            end = 0;
            next();
            boolean good = readCorners() && readCuts();
            length = 0;
            return good;
        }

        private boolean readCorners() {
            for (int i = 0; i <= ROOM; i++) {
                int sort = sortOf(token);
                if (sort == 0) {
                    return draft.corners >= FEWEST_CORNERS || refuse(STRANGE);
                }
                if (draft.corners >= MOST_CORNERS) {
                    return refuse(NO_ROOM);
                }
                next();
                if (!isNumberUpTo(MOST_OWN)) {
                    return false;
                }
                draft.kinds[draft.corners] = sort;
                draft.own[draft.corners] = value;
                draft.corners++;
                next();
                if (!isSign(';')) {
                    return false;
                }
                next();
            }
            return refuse(STRANGE);
        }

        private boolean readCuts() {
            ring.layOut(draft.corners);
            for (int i = 0; i <= ROOM && token != END; i++) {
                if (!isSign('d')) {
                    return false;
                }
                next();
                if (!isNumberUpTo(draft.corners - 1)) {
                    return false;
                }
                int a = value;
                next();
                if (!isSign(',')) {
                    return false;
                }
                next();
                if (!isNumberUpTo(draft.corners - 1) || !drawCut(a, value)) {
                    return false;
                }
                next();
                if (!isSign(';')) {
                    return false;
                }
                next();
            }
            return true;
        }

        private boolean drawCut(int a, int b) {
            int cut = a < b ? ring.numberOf(a, b) : -1;
            if (!ring.isFree(draft.cuts, cut)) {
                return refuse(NOT_AS_TOLD);
            }
            draft.cuts |= 1 << cut;
            return true;
        }

        private boolean refuse(int number) {
            latestFault = number;
            return false;
        }

        private boolean isSign(int sign) {
            return token == sign || refuse(STRANGE);
        }

        private boolean isNumberUpTo(int most) {
            if (token != NUMBER) {
                return refuse(STRANGE);
            }
            return value <= most || refuse(NOT_AS_TOLD);
        }

        private static int sortOf(int letter) {
            switch (letter) {
                case 'p':
                    return PLAIN;
                case 't':
                    return TWOFOLD;
                case 'm':
                    return MINUS;
                case 'f':
                    return FIXED;
                case 'o':
                    return OPEN;
                default:
                    return 0;
            }
        }

        private void next() {
            begin = end;
            if (begin < 0 || begin >= length || begin >= ROOM) {
                token = END;
                return;
            }
            end = begin + 1;
            if (isFigure(letters[begin])) {
                nextNumber();
            } else {
                // a byte that is no token can stand nowhere, as nothing asks for it
                token = letters[begin];
            }
        }

        private void nextNumber() {
            value = 0;
            end = begin;
            for (int i = begin; i < length && i < ROOM && isFigure(letters[i]); i++) {
                // only the last two figures matter: a longer run is no token
                value = value % 10 * 10 + letters[i] - '0';
                end = i + 1;
            }
            token = end - begin <= 2 ? NUMBER : LONG_RUN;
        }

        private static boolean isFigure(int letter) {
            return letter >= '0' && letter <= '9';
        }
    }

    /** What the latest acts changed, the oldest first. */
    private static final class Acts {
        static final int OF_CUTS = 0, OF_KIND = 1, OF_OWN = 2;
        private static final int MOST = 24;

        final int[] what = new int[MOST];
        final int[] where = new int[MOST];
        final int[] before = new int[MOST];
        int kept = 0;

        void keep(int changed, int corner, int old) {
            if (kept >= MOST) {
                forgetOldest();
            }
            if (kept >= 0 && kept < MOST) {
                what[kept] = changed;
                where[kept] = corner;
                before[kept] = old;
                kept++;
            }
        }

        private void forgetOldest() {
            System.arraycopy(what, 1, what, 0, MOST - 1);
            System.arraycopy(where, 1, where, 0, MOST - 1);
            System.arraycopy(before, 1, before, 0, MOST - 1);
            kept = MOST - 1;
        }

        void takeBack(Figure figure) {
            if (kept <= 0 || kept > MOST) {
                return;
            }
            kept--;
            int corner = where[kept];
            if (what[kept] == OF_CUTS) {
                figure.cuts = before[kept];
            } else if (corner >= 0 && corner < MOST_CORNERS) {
                int[] changed = what[kept] == OF_KIND ? figure.kinds : figure.own;
                changed[corner] = before[kept];
            }
        }
    }

    /** The counts of all corners and the numbers that grow from them. */
    private static final class Frieze {
        final int[] counts = new int[MOST_CORNERS];
        final long[] numbers = new long[LAST_OF_FRIEZE + 1];
        int corners = 0;

        void tellCounts(Figure figure, Ring ring) {
            corners = Math.min(figure.corners, MOST_CORNERS);
            for (int c = 0; c < corners; c++) {
                counts[c] = figure.countOf(c, ring);
            }
        }

        /** The numbers of a corner up to number last; whether all that leads to them is within a long. */
        boolean grow(int corner, int last) {
            numbers[0] = 0;
            numbers[1] = 1;
            int at = corner;
            for (int k = 2; k <= last && k < numbers.length; k++) {
                at = at + 1 < corners ? at + 1 : 0;
                long product = counts[at] * numbers[k - 1];
                long less = product - numbers[k - 2];
                // a difference that wraps has not the sign of the first, and the two have unlike signs
                boolean wraps = ((product ^ numbers[k - 2]) & (product ^ less)) < 0;
                if (wraps || !isWithin(counts[at], numbers[k - 1], product)) {
                    return false;
                }
                numbers[k] = less;
            }
            return true;
        }

        private static boolean isWithin(int times, long number, long product) {
            if (times == 0) {
                return true;
            }
            // the least long less itself is itself, and so is its quotient by -1
            boolean stuck = times == -1 && number < 0 && product == number;
            return !stuck && product / times == number;
        }

        boolean closes() {
            for (int c = 0; c < corners; c++) {
                if (!grow(c, corners) || numbers[corners] != 0 || numbers[corners - 1] != 1) {
                    return false;
                }
            }
            return true;
        }

        int period() {
            for (int p = 1; p < corners; p++) {
                if (isSameTurned(p)) {
                    return p;
                }
            }
            return corners;
        }

        private boolean isSameTurned(int p) {
            for (int c = 0; c < corners; c++) {
                int turned = c + p < corners ? c + p : c + p - corners;
                if (counts[c] != counts[turned]) {
                    return false;
                }
            }
            return true;
        }

        /** The corners (bits) that have a nought, or else those that have a number below. */
        int cornersWith(boolean nought) {
            int bits = 0;
            for (int c = 0; c < corners; c++) {
                if (grow(c, corners - 1) && hasSuch(nought)) {
                    bits |= 1 << c;
                }
            }
            return bits;
        }

        private boolean hasSuch(boolean nought) {
            for (int k = 1; k < corners; k++) {
                if (nought ? numbers[k] == 0 : numbers[k] < 0) {
                    return true;
                }
            }
            return false;
        }

        int sumOf(int some) {
            int sum = 0;
            for (int c = 0; c < corners; c++) {
                if ((some >> c & 1) == 1) {
                    sum += counts[c];
                }
            }
            return sum;
        }
    }

    /** Reads a row of numbers back into cuts. */
    private static final class Ears {
        /** Longs, as an item may be the least int and count 1 less. */
        final long[] numbers = new long[MOST_CORNERS];
        int left = 0;
        int corners = 0;

        /** The bits of the cuts; -1, if the row can't be read back. */
        int cutsOf(Row row, int i, Ring ring) {
            corners = ring.corners;
            left = (1 << corners) - 1;
            for (int c = 0; c < corners; c++) {
                numbers[c] = row.itemAt(i + c);
            }
            int cuts = 0;
            for (int gone = 0; gone < corners - 3; gone++) {
                int ear = firstEar();
                if (ear < 0) {
                    return -1;
                }
                left &= ~(1 << ear);
                int before = beside(ear, corners - 1);
                int behind = beside(ear, 1);
                if (!countsLess(before) || !countsLess(behind)) {
                    return -1;
                }
                cuts |= ring.bitOf(before, behind);
            }
            return isThreeOnes() ? cuts : -1;
        }

        private int firstEar() {
            for (int c = 0; c < corners; c++) {
                if (isLeft(c) && numbers[c] == 1) {
                    return c;
                }
            }
            return -1;
        }

        private boolean isLeft(int corner) {
            return (left >> corner & 1) == 1;
        }

        /** The next corner that is left, by steps of 1 or of all corners but one. */
        private int beside(int ear, int step) {
            int at = ear;
            for (int i = 0; i < corners; i++) {
                at += step;
                at = at >= corners ? at - corners : at;
                if (isLeft(at)) {
                    return at;
                }
            }
            return ear;
        }

        private boolean countsLess(int corner) {
            numbers[corner]--;
            return numbers[corner] > 0;
        }

        private boolean isThreeOnes() {
            for (int c = 0; c < corners; c++) {
                if (isLeft(c) && numbers[c] != 1) {
                    return false;
                }
            }
            return true;
        }
    }

    /** Looks for the fewest flips, ring by ring around the cutting that it begins with. */
    private static final class FlipSearch {
        /** More than the 429 cuttings that nine corners have. */
        private static final int ROOM = 512, SLOTS = 1024;

        final int[] met = new int[ROOM];
        /** The same cuttings by a hash; 0 is free, as none that is triangled has no cuts. */
        final int[] slots = new int[SLOTS];
        int many = 0;

        int fewest(Ring ring, int start, int goal) {
            Arrays.fill(slots, 0);
            many = 0;
            meet(start);
            int at = 0;
            for (int far = 0; far < ROOM; far++) {
                int end = many;
                for (; at < end && at < ROOM; at++) {
                    if (met[at] == goal) {
                        return far;
                    }
                    meetAround(ring, met[at]);
                }
            }
            return NONE;
        }

        private void meetAround(Ring ring, int cuts) {
            ring.joinCorners(cuts);
            for (int i = 0; i < ring.numbers; i++) {
                if ((cuts >> i & 1) == 1) {
                    int other = ring.flippedAsJoined(i);
                    if (other >= 0) {
                        meet(cuts & ~(1 << i) | 1 << other);
                    }
                }
            }
        }

        private void meet(int cuts) {
            int slot = cuts * 0x9E3779B1 >>> 22;
            for (int i = 0; i < SLOTS; i++) {
                int place = slot + i & SLOTS - 1;
                if (slots[place] == cuts) {
                    return;
                }
                if (slots[place] == 0) {
                    if (many >= 0 && many < ROOM) {
                        slots[place] = cuts;
                        met[many] = cuts;
                        many++;
                    }
                    return;
                }
            }
        }
    }

    /** The asks of one corner, and the numbers of the bodies that began. */
    private static final class Asks {
        private static final int ROOM = 16;

        final int[] bodies = new int[ROOM];
        int left = 0;
        int self = 0;
        int kindOf = 0;
        int counted = 0;
        int cutsThere = 0;

        void turnTo(int one, int itsKind, int itsCount, int itsCuts) {
            left = 0;
            self = one;
            kindOf = itsKind;
            counted = itsCount;
            cutsThere = itsCuts;
        }

        int size() {
            switch (kindOf) {
                case TWOFOLD:
                    begins(12);
                    return -body11();
                case FIXED:
                case OPEN:
                    return sizeOfFixed();
                default:
                    return body11();
            }
        }

        int mark() {
            return kindOf == FIXED || kindOf == OPEN ? body23() : markOfPlain();
        }

        private int sizeOfFixed() {
            if (kindOf == OPEN) {
                begins(14);
                return 2 * body13();
            }
            return body13();
        }

        private int markOfPlain() {
            switch (kindOf) {
                case TWOFOLD:
                    begins(24);
                    return 2 * body21();
                case MINUS:
                    begins(22);
                    return body21() - 1000;
                default:
                    return body21();
            }
        }

        private void begins(int body) {
            if (left >= 0 && left < ROOM) {
                bodies[left] = body;
                left++;
            }
        }

        private int body10() {
            begins(10);
            return counted;
        }

        private int body11() {
            begins(11);
            int lent = body10();
            return lent + markOfPlain();
        }

        private int body13() {
            begins(13);
            return body10() - 100;
        }

        private int body20() {
            begins(20);
            return self;
        }

        private int body21() {
            begins(21);
            return body20() + cutsThere;
        }

        private int body23() {
            begins(23);
            int lent = body20();
            return lent - sizeOfFixed();
        }
    }
}
