import java.math.BigInteger;
import java.util.ArrayDeque;
import java.util.ArrayList;
import java.util.Arrays;
import java.util.HashMap;
import java.util.HashSet;
import java.util.List;
import java.util.Map;
import java.util.Set;
import java.util.TreeSet;
import java.util.regex.Matcher;
import java.util.regex.Pattern;

/**
 * The document said a second time, by other means: sets, big numbers, points in the plane and brute force. It has the
 * face of FriezePolygons, so that both can be asked the same.
 */
public final class Model {
    static final int NONE = -1000000, BAD = -1000001, STATE = -1000002, FULL = -1000003;
    static final int NULL = 1, PLACE = 2, KIND = 3, SIZE = 4, STORE = 5, OVER = 6;
    static final BigInteger LEAST = BigInteger.valueOf(Long.MIN_VALUE), MOST = BigInteger.valueOf(Long.MAX_VALUE);
    static final int[] CATALAN = {0, 0, 1, 1, 2, 5, 14, 42, 132, 429};

    /** A polygon that never changes: acts make another one. */
    static final class Poly {
        final int n;
        final int[] kinds;
        final int[] ks;
        final TreeSet<Integer> cuts;

        Poly(int n, int[] kinds, int[] ks, Set<Integer> cuts) {
            this.n = n;
            this.kinds = kinds.clone();
            this.ks = ks.clone();
            this.cuts = new TreeSet<>(cuts);
        }

        Poly with(Set<Integer> others) {
            return new Poly(n, kinds, ks, others);
        }

        Poly withKind(int corner, int kind) {
            Poly p = new Poly(n, kinds, ks, cuts);
            p.kinds[corner] = kind;
            return p;
        }

        Poly withK(int corner, int k) {
            Poly p = new Poly(n, kinds, ks, cuts);
            p.ks[corner] = k;
            return p;
        }

        List<int[]> all() {
            List<int[]> list = new ArrayList<>();
            for (int a = 0; a < n; a++) {
                for (int b = a + 1; b < n; b++) {
                    if ((a + 1) % n != b && (b + 1) % n != a) {
                        list.add(new int[] {a, b});
                    }
                }
            }
            return list;
        }

        int number(int a, int b) {
            List<int[]> all = all();
            for (int i = 0; i < all.size(); i++) {
                int[] c = all.get(i);
                if (c[0] == Math.min(a, b) && c[1] == Math.max(a, b)) {
                    return i;
                }
            }
            return -1;
        }

        boolean canHave(int cut) {
            if (cuts.contains(cut)) {
                return false;
            }
            for (int other : cuts) {
                if (cross(all().get(cut), all().get(other))) {
                    return false;
                }
            }
            return true;
        }

        int cutsAt(int corner) {
            int many = 0;
            for (int c : cuts) {
                if (all().get(c)[0] == corner || all().get(c)[1] == corner) {
                    many++;
                }
            }
            return many;
        }

        int count(int corner) {
            int plain = 1 + cutsAt(corner);
            return new int[] {0, plain, plain + plain, 0 - plain, ks[corner], 1 + ks[corner]}[kinds[corner]];
        }

        int bits() {
            return bitsOf(cuts);
        }

        List<TreeSet<Integer>> pieces() {
            List<TreeSet<Integer>> pieces = new ArrayList<>();
            TreeSet<Integer> whole = new TreeSet<>();
            for (int i = 0; i < n; i++) {
                whole.add(i);
            }
            pieces.add(whole);
            for (int cut : cuts) {
                int a = all().get(cut)[0];
                int b = all().get(cut)[1];
                for (int i = 0; i < pieces.size(); i++) {
                    TreeSet<Integer> piece = pieces.get(i);
                    if (piece.contains(a) && piece.contains(b)) {
                        TreeSet<Integer> inner = new TreeSet<>(piece.subSet(a, true, b, true));
                        TreeSet<Integer> outer = new TreeSet<>(piece);
                        outer.removeAll(piece.subSet(a, false, b, false));
                        if (inner.size() > 2 && outer.size() > 2) {
                            pieces.set(i, inner);
                            pieces.add(outer);
                            break;
                        }
                    }
                }
            }
            return pieces;
        }

        int flipped(int cut) {
            if (!cuts.contains(cut)) {
                return -1;
            }
            int a = all().get(cut)[0];
            int b = all().get(cut)[1];
            TreeSet<Integer> four = new TreeSet<>();
            int triangles = 0;
            for (TreeSet<Integer> piece : pieces()) {
                if (piece.contains(a) && piece.contains(b) && piece.size() == 3) {
                    triangles++;
                    four.addAll(piece);
                }
            }
            if (triangles != 2) {
                return -1;
            }
            four.remove(a);
            four.remove(b);
            return number(four.first(), four.last());
        }

        TreeSet<Integer> moved(int r, boolean mirrored) {
            TreeSet<Integer> out = new TreeSet<>();
            for (int c : cuts) {
                int a = all().get(c)[0];
                int b = all().get(c)[1];
                a = mirrored ? n - 1 - a : a;
                b = mirrored ? n - 1 - b : b;
                out.add(number((a + r) % n, (b + r) % n));
            }
            return out;
        }

        BigInteger[] frieze(int corner, int last) {
            BigInteger[] f = new BigInteger[Math.max(last + 1, 2)];
            f[0] = BigInteger.ZERO;
            f[1] = BigInteger.ONE;
            for (int k = 2; k <= last; k++) {
                BigInteger product = f[k - 1].multiply(BigInteger.valueOf(count((corner + k - 1) % n)));
                f[k] = product.subtract(f[k - 2]);
                if (outside(product) || outside(f[k])) {
                    return null;
                }
            }
            return f;
        }
    }

    static boolean outside(BigInteger x) {
        return x.compareTo(LEAST) < 0 || x.compareTo(MOST) > 0;
    }

    static int bitsOf(Set<Integer> set) {
        int bits = 0;
        for (int i : set) {
            bits += 1 << i;
        }
        return bits;
    }

    /** Corner i stands at (i, i * i), so that the corners are a convex ring. */
    static int sideOf(int p, int a, int b) {
        return Integer.signum((b - a) * (p * p - a * a) - (b * b - a * a) * (p - a));
    }

    static boolean cross(int[] one, int[] other) {
        return sideOf(one[0], other[0], other[1]) * sideOf(one[1], other[0], other[1]) < 0
                && sideOf(other[0], one[0], one[1]) * sideOf(other[1], one[0], one[1]) < 0;
    }

    // ---- the state

    private final int[][] items = new int[8][];
    private final int[] lanes = new int[8];
    private StringBuilder tape = new StringBuilder();
    private Poly now = null;
    private final ArrayDeque<Poly> past = new ArrayDeque<>();
    private final Poly[] images = new Poly[2];
    private final List<Integer> trace = new ArrayList<>();
    private int fault = 0;
    private int status = 0;

    private int found(int number) {
        status = number;
        return -1000010 - number;
    }

    private int ok(int answer) {
        status = 0;
        return answer;
    }

    private void act(Poly next) {
        past.addLast(now);
        if (past.size() > 24) {
            past.removeFirst();
        }
        now = next;
    }

    private boolean corner(int c) {
        return now != null && c >= 0 && c < now.n;
    }

    private static boolean in(int x, int least, int most) {
        return x >= least && x <= most;
    }

    private static boolean inside(int[] row, int i, int n) {
        return i >= 0 && n >= 0 && (long) i + n <= row.length;
    }

    // ---- rows

    public int row(int row, int lane, int n) {
        if (!in(row, 0, 7) || !in(lane, 0, 2) || n > 40) {
            return BAD;
        }
        if (n < 0) {
            return found(SIZE);
        }
        items[row] = new int[n];
        lanes[row] = lane;
        return ok(n);
    }

    public int set(int row, int i, int v) {
        if (!in(row, 0, 7)) {
            return BAD;
        }
        if (items[row] == null) {
            return found(NULL);
        }
        if (!inside(items[row], i, 1)) {
            return found(PLACE);
        }
        int width = 8 << lanes[row];
        items[row][i] = BigInteger.valueOf(v).shiftLeft(32 - width).intValue() >> 32 - width;
        return ok(items[row][i]);
    }

    public int copy(int a, int i, int b, int j, int n) {
        if (!in(a, 0, 7) || !in(b, 0, 7)) {
            return BAD;
        }
        if (items[a] == null || items[b] == null) {
            return found(NULL);
        }
        if (lanes[a] != lanes[b]) {
            return found(STORE);
        }
        if (!inside(items[a], i, n) || !inside(items[b], j, n)) {
            return found(PLACE);
        }
        int[] ahead = items[a].clone();
        for (int k = 0; k < n; k++) {
            items[b][j + k] = ahead[i + k];
        }
        return ok(n);
    }

    public int drop(int row) {
        if (!in(row, 0, 7)) {
            return BAD;
        }
        if (items[row] == null) {
            return found(NULL);
        }
        int n = items[row].length;
        items[row] = null;
        return ok(n);
    }

    // ---- what is told

    public int feed(int letter) {
        if (!in(letter, 0, 255)) {
            return BAD;
        }
        if (tape.length() == 120) {
            return FULL;
        }
        tape.append((char) letter);
        return tape.length();
    }

    private record Token(String text, int place) { }

    /** A fault of a text, that ends the reading of it. */
    private static final class Fault extends RuntimeException {
        private static final long serialVersionUID = 1L;
        final int number;
        final int place;

        Fault(int number, int place) {
            this.number = number;
            this.place = place;
        }
    }

    private static List<Token> tokens(String text) {
        List<Token> list = new ArrayList<>();
        Matcher m = Pattern.compile("[0-9]+|[\\x00-\\xff]", Pattern.DOTALL).matcher(text);
        while (m.find()) {
            list.add(new Token(m.group(), m.start()));
        }
        list.add(new Token("", text.length()));
        return list;
    }

    private static Token want(Token t, String regex) {
        if (!t.text.matches(regex)) {
            throw new Fault(1, t.place);
        }
        return t;
    }

    private static Poly parse(String text) {
        List<Token> t = tokens(text);
        int at = 0;
        int n = 0;
        int[] kinds = new int[9];
        int[] ks = new int[9];
        while (n < 4 || t.get(at).text.matches("[ptmfo]")) {
            Token sort = want(t.get(at++), "[ptmfo]");
            if (n == 9) {
                throw new Fault(3, sort.place);
            }
            Token k = want(t.get(at++), "[0-9]{1,2}");
            if (Integer.parseInt(k.text) > 9) {
                throw new Fault(2, k.place);
            }
            want(t.get(at++), ";");
            kinds[n] = "?ptmfo".indexOf(sort.text);
            ks[n] = Integer.parseInt(k.text);
            n++;
        }
        Poly p = new Poly(n, Arrays.copyOf(kinds, n), Arrays.copyOf(ks, n), Set.of());
        while (!t.get(at).text.isEmpty()) {
            want(t.get(at++), "d");
            Token a = want(t.get(at++), "[0-9]{1,2}");
            if (Integer.parseInt(a.text) >= n) {
                throw new Fault(2, a.place);
            }
            want(t.get(at++), ",");
            Token b = want(t.get(at++), "[0-9]{1,2}");
            int from = Integer.parseInt(a.text);
            int to = Integer.parseInt(b.text);
            int cut = p.number(from, to);
            if (from >= to || cut < 0 || !p.canHave(cut)) {
                throw new Fault(2, b.place);
            }
            want(t.get(at++), ";");
            p.cuts.add(cut);
        }
        return p;
    }

    public int polygon() {
        String text = tape.toString();
        tape = new StringBuilder();
        try {
            now = parse(text);
        } catch (Fault f) {
            fault = f.number;
            return -1000100 - f.place;
        }
        past.clear();
        return now.n;
    }

    public int fault() {
        return fault;
    }

    public int undo() {
        if (past.isEmpty()) {
            return STATE;
        }
        now = past.removeLast();
        return past.size();
    }

    // ---- what is done

    public int cut(int a, int b) {
        if (!corner(a) || !corner(b) || now.number(a, b) < 0) {
            return BAD;
        }
        int cut = now.number(a, b);
        if (!now.canHave(cut)) {
            return STATE;
        }
        TreeSet<Integer> cuts = new TreeSet<>(now.cuts);
        cuts.add(cut);
        act(now.with(cuts));
        return cuts.size();
    }

    private boolean noNumber(int cut) {
        return now == null || !in(cut, 0, now.n * (now.n - 3) / 2 - 1);
    }

    public int join(int cut) {
        if (noNumber(cut)) {
            return BAD;
        }
        if (!now.cuts.contains(cut)) {
            return STATE;
        }
        TreeSet<Integer> cuts = new TreeSet<>(now.cuts);
        cuts.remove(cut);
        act(now.with(cuts));
        return cuts.size();
    }

    private static Poly flip(Poly p, int cut) {
        TreeSet<Integer> cuts = new TreeSet<>(p.cuts);
        cuts.add(p.flipped(cut));
        cuts.remove(cut);
        return p.with(cuts);
    }

    public int flip(int cut) {
        if (noNumber(cut)) {
            return BAD;
        }
        int other = now.flipped(cut);
        if (other < 0) {
            return STATE;
        }
        act(flip(now, cut));
        return other;
    }

    public int turn(int r) {
        if (now == null || !in(r, 1, now.n - 1)) {
            return BAD;
        }
        act(now.with(now.moved(r, false)));
        return now.bits();
    }

    public int mirror() {
        if (now == null) {
            return STATE;
        }
        act(now.with(now.moved(0, true)));
        return now.bits();
    }

    public int become(int corner, int kind) {
        if (!corner(corner) || !in(kind, 1, 5)) {
            return BAD;
        }
        int was = now.kinds[corner];
        if (was == kind) {
            return STATE;
        }
        act(now.withKind(corner, kind));
        return was;
    }

    public int number(int corner, int k) {
        if (!corner(corner) || !in(k, 0, 9)) {
            return BAD;
        }
        int was = now.ks[corner];
        act(now.withK(corner, k));
        return was;
    }

    /** The cuts read back; null, if they can't be. */
    private Set<Integer> readBack(int row, int i) {
        List<Integer> left = new ArrayList<>();
        long[] v = new long[now.n];
        for (int c = 0; c < now.n; c++) {
            left.add(c);
            v[c] = items[row][i + c];
        }
        Set<Integer> cuts = new TreeSet<>();
        while (left.size() > 3) {
            int at = 0;
            while (at < left.size() && v[left.get(at)] != 1) {
                at++;
            }
            if (at == left.size()) {
                return null;
            }
            int before = left.get((at + left.size() - 1) % left.size());
            int behind = left.get((at + 1) % left.size());
            left.remove(at);
            cuts.add(now.number(before, behind));
            v[before]--;
            v[behind]--;
            if (v[before] <= 0 || v[behind] <= 0) {
                return null;
            }
        }
        for (int c : left) {
            if (v[c] != 1) {
                return null;
            }
        }
        return cuts;
    }

    private int rowRefusal(int row, int i) {
        if (now == null) {
            return STATE;
        }
        if (!in(row, 0, 7)) {
            return BAD;
        }
        if (items[row] == null) {
            return found(NULL);
        }
        return inside(items[row], i, now.n) ? 0 : found(PLACE);
    }

    public int lay(int row) {
        int refusal = rowRefusal(row, 0);
        if (refusal != 0) {
            return refusal;
        }
        Set<Integer> cuts = readBack(row, 0);
        if (cuts == null) {
            return ok(NONE);
        }
        act(now.with(cuts));
        return ok(now.bits());
    }

    public int corner(int corner, int what) {
        if (!corner(corner) || !in(what, 0, 3)) {
            return BAD;
        }
        Set<Integer> ends = new TreeSet<>();
        for (int other = 0; other < now.n; other++) {
            if (now.cuts.contains(now.number(corner, other))) {
                ends.add(other);
            }
        }
        return new int[] {now.count(corner), now.ks[corner], ends.size(), bitsOf(ends)}[what];
    }

    public int cutOf(int cut, int what) {
        if (noNumber(cut) || !in(what, 0, 3)) {
            return BAD;
        }
        int[] ends = now.all().get(cut);
        int other = now.flipped(cut);
        return new int[] {ends[0], ends[1], now.cuts.contains(cut) ? 1 : 0, other < 0 ? NONE : other}[what];
    }

    // ---- friezes

    public long frieze(int corner, int k) {
        if (!corner(corner) || !in(k, 0, 20)) {
            return BAD;
        }
        BigInteger[] f = now.frieze(corner, k);
        if (f == null) {
            return found(OVER);
        }
        status = 0;
        return f[k].longValueExact();
    }

    public int whole(int what) {
        if (now == null) {
            return STATE;
        }
        if (!in(what, 0, 8)) {
            return BAD;
        }
        int n = now.n;
        boolean closes = true;
        Set<Integer> noughts = new TreeSet<>();
        Set<Integer> below = new TreeSet<>();
        for (int c = 0; c < n; c++) {
            BigInteger[] f = now.frieze(c, n);
            closes &= f[n].signum() == 0 && f[n - 1].equals(BigInteger.ONE);
            for (int k = 1; k <= n - 1; k++) {
                if (f[k].signum() == 0) {
                    noughts.add(c);
                }
                if (f[k].signum() < 0) {
                    below.add(c);
                }
            }
        }
        List<Integer> counts = new ArrayList<>();
        for (int c = 0; c < n; c++) {
            counts.add(now.count(c));
        }
        int period = 0;
        List<Integer> turned = new ArrayList<>(counts);
        do {
            turned.add(turned.remove(0));
            period++;
        } while (!turned.equals(counts));
        boolean triangled = true;
        for (TreeSet<Integer> piece : now.pieces()) {
            triangled &= piece.size() == 3;
        }
        return new int[] {now.cuts.size(), now.bits(), now.pieces().size(), closes ? 1 : 0, period, bitsOf(noughts),
            bitsOf(below), triangled ? 1 : 0, now.all().size()}[what];
    }

    public int piece(int corner) {
        if (!corner(corner)) {
            return BAD;
        }
        for (TreeSet<Integer> piece : now.pieces()) {
            if (piece.contains(corner) && piece.contains((corner + 1) % now.n)) {
                return bitsOf(piece);
            }
        }
        throw new IllegalStateException();
    }

    public int back(int row, int i) {
        int refusal = rowRefusal(row, i);
        if (refusal != 0) {
            return refusal;
        }
        Set<Integer> cuts = readBack(row, i);
        return ok(cuts == null ? NONE : bitsOf(cuts));
    }

    // ---- foretold

    /** All sets of cuts that triangulate and have these, by trying each cut that fits. */
    private static void triangulations(Poly p, Set<Integer> seen, Set<Integer> full) {
        if (!seen.add(p.bits())) {
            return;
        }
        if (p.cuts.size() == p.n - 3) {
            full.add(p.bits());
        }
        for (int cut = 0; cut < p.all().size(); cut++) {
            if (p.canHave(cut)) {
                TreeSet<Integer> more = new TreeSet<>(p.cuts);
                more.add(cut);
                triangulations(p.with(more), seen, full);
            }
        }
    }

    public int ways() {
        if (now == null) {
            return STATE;
        }
        int product = 1;
        for (TreeSet<Integer> piece : now.pieces()) {
            product *= CATALAN[piece.size()];
        }
        if (now.n - 3 - now.cuts.size() <= 2) {
            Set<Integer> full = new HashSet<>();
            triangulations(now, new HashSet<>(), full);
            if (full.size() != product) {
                throw new IllegalStateException("the model's own ways differ");
            }
        }
        return product;
    }

    public int likes(int what) {
        if (now == null) {
            return STATE;
        }
        TreeSet<Integer> likes = new TreeSet<>();
        for (int r = 0; r < now.n; r++) {
            likes.add(bitsOf(now.moved(r, false)));
            likes.add(bitsOf(now.with(now.moved(0, true)).moved(r, false)));
        }
        return what == 0 ? likes.first() : what == 1 ? likes.size() : BAD;
    }

    public int flips(int row) {
        int refusal = rowRefusal(row, 0);
        if (refusal != 0) {
            return refusal;
        }
        Set<Integer> cuts = readBack(row, 0);
        if (cuts == null || now.cuts.size() != now.n - 3) {
            return ok(NONE);
        }
        Map<Set<Integer>, Integer> far = new HashMap<>();
        ArrayDeque<Poly> queue = new ArrayDeque<>();
        far.put(now.cuts, 0);
        queue.add(now);
        while (!far.containsKey(cuts)) {
            Poly p = queue.remove();
            for (int cut : p.cuts) {
                if (p.flipped(cut) >= 0) {
                    Poly q = flip(p, cut);
                    if (far.putIfAbsent(q.cuts, far.get(p.cuts) + 1) == null) {
                        queue.add(q);
                    }
                }
            }
        }
        return ok(far.get(cuts));
    }

    private void sets(int corner, int rest, Set<Integer> chosen, List<Set<Integer>> out) {
        if (corner == now.n) {
            if (rest == 0) {
                out.add(new TreeSet<>(chosen));
            }
            return;
        }
        sets(corner + 1, rest, chosen, out);
        chosen.add(corner);
        sets(corner + 1, rest - now.count(corner), chosen, out);
        chosen.remove(corner);
    }

    public int sets(int v, int what) {
        if (now == null) {
            return STATE;
        }
        if (!in(v, -99, 99) || !in(what, 0, 2)) {
            return BAD;
        }
        List<Set<Integer>> out = new ArrayList<>();
        sets(0, v, new TreeSet<>(), out);
        Set<Integer> all = out.isEmpty() ? new TreeSet<>() : new TreeSet<>(out.get(0));
        Set<Integer> any = new TreeSet<>();
        for (Set<Integer> one : out) {
            all.retainAll(one);
            any.addAll(one);
        }
        return new int[] {out.size(), bitsOf(all), bitsOf(any)}[what];
    }

    private boolean told(Poly p, int row, int i, int m) {
        for (int c = 0; c < m; c++) {
            if (p.count(c) != items[row][i + c]) {
                return false;
            }
        }
        return true;
    }

    public int who(int corner, int which, int row, int i, int m) {
        if (!corner(corner) || !in(which, 0, 2) || !in(row, 0, 7) || !in(m, 1, now.n)) {
            return BAD;
        }
        if (items[row] == null) {
            return found(NULL);
        }
        if (!inside(items[row], i, m)) {
            return found(PLACE);
        }
        Set<Integer> out = new TreeSet<>();
        int from = which == 0 ? 1 : 0;
        int end = which == 0 ? 6 : which == 1 ? 10 : now.all().size();
        for (int x = from; x < end; x++) {
            Poly p = which == 0 ? now.withKind(corner, x) : which == 1 ? now.withK(corner, x) : now;
            if (which == 2) {
                if (!now.canHave(x)) {
                    continue;
                }
                TreeSet<Integer> more = new TreeSet<>(now.cuts);
                more.add(x);
                p = now.with(more);
            }
            if (told(p, row, i, m)) {
                out.add(x);
            }
        }
        return ok(bitsOf(out));
    }

    private static BigInteger lost(Poly p, List<Integer> open, TreeSet<Integer> kept, int v, int tenths) {
        if (open.isEmpty()) {
            for (TreeSet<Integer> piece : p.with(kept).pieces()) {
                if (piece.size() > v) {
                    return BigInteger.ZERO;
                }
            }
            return BigInteger.ONE;
        }
        List<Integer> rest = open.subList(1, open.size());
        BigInteger without = lost(p, rest, kept, v, tenths);
        TreeSet<Integer> more = new TreeSet<>(kept);
        more.add(open.get(0));
        BigInteger with = lost(p, rest, more, v, tenths);
        return without.multiply(BigInteger.valueOf(tenths)).add(with.multiply(BigInteger.valueOf(10 - tenths)));
    }

    public long lost(int v, int p, int what) {
        if (now == null) {
            return STATE;
        }
        if (!in(v, 3, 9) || !in(p, 0, 10) || !in(what, 0, 1)) {
            return BAD;
        }
        BigInteger above = lost(now, new ArrayList<>(now.cuts), new TreeSet<>(), v, p);
        BigInteger below = BigInteger.TEN.pow(now.cuts.size());
        BigInteger g = above.gcd(below);
        return (what == 0 ? above : below).divide(g).longValueExact();
    }

    public int drawn(int n, int seed, int what) {
        if (now == null) {
            return STATE;
        }
        if (!in(n, 0, 60) || !in(seed, 1, 999999) || !in(what, 0, 1)) {
            return BAD;
        }
        BigInteger x = BigInteger.valueOf(seed);
        Poly p = now;
        int done = 0;
        for (int i = 0; i < n; i++) {
            x = x.multiply(BigInteger.valueOf(16807)).mod(BigInteger.valueOf(2147483647));
            if (!p.cuts.isEmpty()) {
                int cut = new ArrayList<>(p.cuts).get(x.mod(BigInteger.valueOf(p.cuts.size())).intValue());
                if (p.flipped(cut) >= 0) {
                    p = flip(p, cut);
                    done++;
                }
            }
        }
        return what == 0 ? done : p.bits();
    }

    public int image(int k) {
        if (!in(k, 0, 1)) {
            return BAD;
        }
        if (now == null) {
            return STATE;
        }
        images[k] = now;
        return 1;
    }

    public int restore(int k) {
        if (!in(k, 0, 1)) {
            return BAD;
        }
        if (images[k] == null) {
            return STATE;
        }
        now = images[k];
        past.clear();
        return 1;
    }

    // ---- asked: the kinds as Java's own classes, so that Java's own dispatch chooses the bodies

    interface Corner {
        List<Integer> trace();
        int counted();
        int index();
        int cuts();

        default int size() {
            trace().add(10);
            return counted();
        }

        default int mark() {
            trace().add(20);
            return index();
        }
    }

    abstract static class Base implements Corner {
        List<Integer> trace;
        int counted;
        int index;
        int cuts;

        public List<Integer> trace() {
            return trace;
        }

        public int counted() {
            return counted;
        }

        public int index() {
            return index;
        }

        public int cuts() {
            return cuts;
        }
    }

    static class Plain extends Base {
        public int size() {
            trace.add(11);
            return super.size() + mark();
        }

        public int mark() {
            trace.add(21);
            return super.mark() + cuts;
        }
    }

    static class Twofold extends Plain {
        public int size() {
            trace.add(12);
            return 0 - super.size();
        }

        public int mark() {
            trace.add(24);
            return 2 * super.mark();
        }
    }

    static class Minus extends Plain {
        public int mark() {
            trace.add(22);
            return super.mark() - 1000;
        }
    }

    static class Fixed extends Base {
        public int size() {
            trace.add(13);
            return super.size() - 100;
        }

        public int mark() {
            trace.add(23);
            return super.mark() - size();
        }
    }

    static class Open extends Fixed {
        public int size() {
            trace.add(14);
            return 2 * super.size();
        }
    }

    private Base object(int one) {
        Base[] sorts = {null, new Plain(), new Twofold(), new Minus(), new Fixed(), new Open()};
        return sorts[now.kinds[one]];
    }

    public int kind(int one) {
        return corner(one) ? now.kinds[one] : BAD;
    }

    public int as(int one, int kind) {
        if (!corner(one) || !in(kind, 0, 5)) {
            return BAD;
        }
        Class<?>[] classes = {Corner.class, Plain.class, Twofold.class, Minus.class, Fixed.class, Open.class};
        return classes[kind].isInstance(object(one)) ? ok(one) : found(KIND);
    }

    public int ask(int one, int what) {
        if (!corner(one) || !in(what, 0, 1)) {
            return BAD;
        }
        trace.clear();
        Base b = object(one);
        b.trace = trace;
        b.counted = now.count(one);
        b.index = one;
        b.cuts = now.cutsAt(one);
        return what == 0 ? b.size() : b.mark();
    }

    public int trace(int i) {
        return in(i, 0, Math.min(16, trace.size()) - 1) ? trace.get(i) : NONE;
    }

    public int count(int what) {
        int rows = 0;
        for (int[] row : items) {
            rows += row == null ? 0 : 1;
        }
        int together = 0;
        for (int c = 0; now != null && c < now.n; c++) {
            together += now.count(c);
        }
        int[] all = {rows, now == null ? 0 : now.n, now == null ? 0 : now.cuts.size(), together, past.size(),
            tape.length()};
        return in(what, 0, 5) ? all[what] : BAD;
    }

    public int status() {
        return status;
    }
}
