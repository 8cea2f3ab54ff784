import java.util.ArrayDeque;
import java.util.ArrayList;
import java.util.Arrays;
import java.util.Deque;
import java.util.List;
import java.util.TreeSet;

/**
 * The document once more, in the slowest and plainest way: whole matrices over all states, every polynomial
 * multiplied out, nothing kept from call to call. The class is compared with it.
 */
final class Model {
    static final class Fault extends RuntimeException {
        private static final long serialVersionUID = 1L;
        final int why;
        final int place;

        Fault(int why, int place) {
            this.why = why;
            this.place = place;
        }
    }

    interface Expr {
        int of(int u, int eta, int d, int p);
    }

    record Token(String sign, int place) { }

    record Clause(String head, Expr expr, int letter) { }

    /** All that an image keeps. */
    static final class All {
        int n;
        boolean ring = true;
        int p = 13;
        int eta = 1;
        int d = 1;
        List<List<Clause>> texts = new ArrayList<>();
        int told = -1;
        int[] vector;
        Deque<int[]> done = new ArrayDeque<>();
        Deque<int[]> undone = new ArrayDeque<>();

        All copy() {
            All c = new All();
            c.n = n;
            c.ring = ring;
            c.p = p;
            c.eta = eta;
            c.d = d;
            c.texts = new ArrayList<>(texts);
            c.told = told;
            c.vector = vector.clone();
            for (int[] v : done) {
                c.done.addLast(v.clone());
            }
            for (int[] v : undone) {
                c.undone.addLast(v.clone());
            }
            return c;
        }
    }

    private All now = new All();
    private All image;
    private byte[] tape = new byte[0];
    private int faultWhy = -1;
    private int faultPlace = -1;

    Model(int n) {
        now.n = n < 2 ? 2 : n > 7 ? 7 : n;
        now.vector = new int[1 << now.n];
        image = now.copy();
    }

    private int mod(long x) {
        return (int) (((x % now.p) + now.p) % now.p);
    }

    private static int quotient(int x, int y, int p) {
        for (int z = 0; z < p; z++) {
            if (y != 0 && (z * y - x) % p == 0) {
                return z;
            }
        }
        return 0;
    }

    private int states() {
        return 1 << now.n;
    }

    private boolean isState(int s) {
        return s >= 0 && s < states();
    }

    private boolean isNumber(int x) {
        return x >= 0 && x < now.p;
    }

    boolean chain(int n, boolean ring) {
        if (n < 2 || n > 7) {
            return false;
        }
        now.n = n;
        now.ring = ring;
        now.vector = new int[1 << n];
        now.done.clear();
        now.undone.clear();
        return true;
    }

    boolean prime(int p) {
        if (!Arrays.asList(5, 7, 11, 13, 17, 19, 23, 29, 31, 37, 41, 43, 47, 53, 59, 61, 67, 71, 73, 79, 83, 89, 97)
                .contains(p)) {
            return false;
        }
        now.p = p;
        now.eta %= p;
        if (now.eta == 0) {
            now.eta = 1;
        }
        now.d %= p;
        List<int[]> all = new ArrayList<>(now.done);
        all.addAll(now.undone);
        all.add(now.vector);
        for (int[] v : all) {
            for (int i = 0; i < v.length; i++) {
                v[i] %= p;
            }
        }
        return true;
    }

    boolean numbers(int eta, int d) {
        if (eta < 1 || eta >= now.p || d < 0 || d >= now.p) {
            return false;
        }
        now.eta = eta;
        now.d = d;
        return true;
    }

    int feed(int a, int b, int c, int d, int e) {
        if (tape.length > 280) {
            return -1;
        }
        byte[] longer = Arrays.copyOf(tape, tape.length + 20);
        int[] words = {a, b, c, d, e};
        for (int i = 0; i < 20; i++) {
            longer[tape.length + i] = (byte) (words[i / 4] >>> (24 - 8 * (i % 4)));
        }
        tape = longer;
        return tape.length;
    }

    int end(int n) {
        if (n < 0 || n > tape.length) {
            return -1;
        }
        tape = Arrays.copyOf(tape, n);
        return n;
    }

    int text() {
        if (now.texts.size() == 4) {
            return -1;
        }
        byte[] read = tape;
        tape = new byte[0];
        try {
            now.texts.add(new Parser(read).parse());
            faultWhy = 0;
            faultPlace = -1;
            return now.texts.size() - 1;
        } catch (Fault f) {
            faultWhy = f.why;
            faultPlace = f.place;
            return -1;
        }
    }

    int fault(int what) {
        return what == 0 ? faultWhy : what == 1 ? faultPlace : -1;
    }

    boolean by(int text) {
        if (text < -1 || text >= now.texts.size()) {
            return false;
        }
        now.told = text;
        return true;
    }

    int weight(int which, int u) {
        if (which < 0 || which > 2 || !isNumber(u)) {
            return -1;
        }
        if (now.told >= 0) {
            for (Clause c : now.texts.get(now.told)) {
                if (c.head.equals("abc".substring(which, which + 1))) {
                    return c.expr.of(u, now.eta, now.d, now.p);
                }
            }
        }
        return mod(which == 0 ? u + now.eta : which == 1 ? u : now.eta);
    }

    /** Matrix of the exchange of letters i and k among many letters; m[x][y]: how much of y comes of x. */
    private int[][] exchange(int letters, int i, int k, int u) {
        int[][] m = new int[1 << letters][1 << letters];
        for (int x = 0; x < m.length; x++) {
            if (((x >> i) & 1) == ((x >> k) & 1)) {
                m[x][x] = weight(0, u);
            } else {
                m[x][x] = weight(1, u);
                m[x][x ^ (1 << i) ^ (1 << k)] = weight(2, u);
            }
        }
        return m;
    }

    private int[][] then(int[][] a, int[][] b) {
        int[][] c = new int[a.length][a.length];
        for (int x = 0; x < a.length; x++) {
            for (int z = 0; z < a.length; z++) {
                if (a[x][z] != 0) {
                    for (int y = 0; y < a.length; y++) {
                        c[x][y] += a[x][z] * b[z][y];
                    }
                }
            }
        }
        for (int[] row : c) {
            for (int y = 0; y < row.length; y++) {
                row[y] = mod(row[y]);
            }
        }
        return c;
    }

    int equation(int what) {
        if (what < 0 || what > 2) {
            return -1;
        }
        int held = 0;
        int firstU = -1;
        int firstV = -1;
        for (int u = 0; u < now.p; u++) {
            for (int v = 0; v < now.p; v++) {
                int[][] one = exchange(3, 0, 1, mod(u - v));
                int[][] two = exchange(3, 0, 2, u);
                int[][] three = exchange(3, 1, 2, v);
                if (Arrays.deepEquals(then(then(one, two), three), then(then(three, two), one))) {
                    held++;
                } else if (firstU < 0) {
                    firstU = u;
                    firstV = v;
                }
            }
        }
        return what == 0 ? held : what == 1 ? firstU : firstV;
    }

    private int[][] sumMatrix(boolean ring, int d) {
        int[][] m = new int[states()][states()];
        for (int x = 0; x < m.length; x++) {
            for (int i = 0; i < (ring ? now.n : now.n - 1); i++) {
                int k = (i + 1) % now.n;
                int one = (x >> i) & 1;
                int two = (x >> k) & 1;
                if (one == two) {
                    m[x][x] += d;
                } else {
                    m[x][x - (one << i) - (two << k) + (one << k) + (two << i)]++;
                }
            }
            for (int y = 0; y < m.length; y++) {
                m[x][y] = mod(m[x][y]);
            }
        }
        return m;
    }

    private int[][] sumMatrix() {
        return sumMatrix(now.ring, now.d);
    }

    int sum(int x, int y) {
        return isState(x) && isState(y) ? sumMatrix()[x][y] : -1;
    }

    /** The letter that goes by is letter n; all exchanges are multiplied as vectors over 2^(n+1) states. */
    private int[][] tableMatrix(int u) {
        int[][] m = new int[states()][states()];
        int a = weight(0, u);
        int b = weight(1, u);
        int c = weight(2, u);
        for (int x = 0; x < m.length; x++) {
            for (int e = 0; e < 2; e++) {
                int[] much = new int[2 * m.length];
                much[x + e * m.length] = 1;
                for (int i = 0; i < now.n; i++) {
                    int[] next = new int[much.length];
                    for (int s = 0; s < much.length; s++) {
                        if (((s >> i) & 1) == (s >> now.n)) {
                            next[s] = mod(next[s] + a * much[s]);
                        } else {
                            next[s] = mod(next[s] + b * much[s]);
                            int other = s ^ (1 << i) ^ (1 << now.n);
                            next[other] = mod(next[other] + c * much[s]);
                        }
                    }
                    much = next;
                }
                for (int y = 0; y < m.length; y++) {
                    m[x][y] = mod(m[x][y] + much[y + e * m.length]);
                }
            }
        }
        return m;
    }

    int table(int u, int x, int y) {
        return isNumber(u) && isState(x) && isState(y) ? tableMatrix(u)[x][y] : -1;
    }

    boolean commute(int u, int v) {
        if (!isNumber(u) || !isNumber(v)) {
            return false;
        }
        int[][] one = tableMatrix(u);
        int[][] two = tableMatrix(v);
        return Arrays.deepEquals(then(one, two), then(two, one));
    }

    boolean keeps(int u) {
        if (!isNumber(u)) {
            return false;
        }
        int[][] one = tableMatrix(u);
        int[][] two = sumMatrix();
        return Arrays.deepEquals(then(one, two), then(two, one));
    }

    private int shift(int s) {
        int t = 0;
        for (int i = 0; i < now.n; i++) {
            if (((s >> i) & 1) == 1) {
                t |= 1 << ((i + 1) % now.n);
            }
        }
        return t;
    }

    private int[] sector(int m) {
        List<Integer> all = new ArrayList<>();
        for (int s = 0; s < states(); s++) {
            if (Integer.bitCount(s) == m) {
                all.add(s);
            }
        }
        return all.stream().mapToInt(Integer::intValue).toArray();
    }

    private boolean noSector(int m, int turn) {
        return m < 0 || m > now.n || turn < -1 || turn >= now.n || (turn >= 0 && (root() < 0 || now.n % now.p == 0));
    }

    int size(int m, int turn) {
        if (noSector(m, turn)) {
            return -1;
        }
        if (turn == -1) {
            return sector(m).length;
        }
        int rounds = 0;
        TreeSet<Integer> seen = new TreeSet<>();
        for (int s : sector(m)) {
            int unlike = 0;
            int t = s;
            while (seen.add(t)) {
                unlike++;
                t = shift(t);
            }
            if (unlike > 0 && turn * unlike % now.n == 0) {
                rounds++;
            }
        }
        return rounds;
    }

    private int[][] within(int[][] whole, int[] some) {
        int[][] m = new int[some.length][some.length];
        for (int i = 0; i < some.length; i++) {
            for (int k = 0; k < some.length; k++) {
                m[i][k] = whole[some[i]][some[k]];
            }
        }
        return m;
    }

    int trace(int m, int j) {
        if (m < 0 || m > now.n || j < 0 || j > 99) {
            return -1;
        }
        int[][] one = within(sumMatrix(), sector(m));
        int[][] all = new int[one.length][one.length];
        for (int i = 0; i < all.length; i++) {
            all[i][i] = 1;
        }
        for (int i = 0; i < j; i++) {
            all = then(all, one);
        }
        long trace = 0;
        for (int i = 0; i < all.length; i++) {
            trace += all[i][i];
        }
        return mod(trace);
    }

    /** By Berkowitz, without any division; lowest coefficient first. */
    private int[] polynomial(int[][] a) {
        int[] high = {1};
        for (int k = 0; k < a.length; k++) {
            int[] column = new int[k + 2];
            column[0] = 1;
            column[1] = mod(-a[k][k]);
            int[] c = new int[k];
            for (int i = 0; i < k; i++) {
                c[i] = a[i][k];
            }
            for (int r = 2; r < k + 2; r++) {
                long rc = 0;
                int[] next = new int[k];
                for (int i = 0; i < k; i++) {
                    rc += a[k][i] * c[i];
                    long all = 0;
                    for (int z = 0; z < k; z++) {
                        all += a[i][z] * c[z];
                    }
                    next[i] = mod(all);
                }
                column[r] = mod(-rc);
                c = next;
            }
            int[] longer = new int[k + 2];
            for (int i = 0; i < k + 2; i++) {
                long all = 0;
                for (int z = 0; z <= i && z < high.length; z++) {
                    all += column[i - z] * high[z];
                }
                longer[i] = mod(all);
            }
            high = longer;
        }
        int[] low = new int[high.length];
        for (int i = 0; i < high.length; i++) {
            low[i] = high[high.length - 1 - i];
        }
        return low;
    }

    /**
     * THE SUM on what SHIFT makes root^turn times: vectors over the sector are found by elimination as the kernel
     * of SHIFT less the factor, and THE SUM is told in them by the places where each alone isn't 0.
     */
    private int[][] turnMatrix(int m, int turn) {
        int[] some = sector(m);
        int size = some.length;
        int factor = 1;
        for (int i = 0; i < turn; i++) {
            factor = mod(factor * root());
        }
        int[][] rows = new int[size][size];
        for (int i = 0; i < size; i++) {
            int to = Arrays.binarySearch(some, shift(some[i]));
            rows[to][i] = mod(rows[to][i] + 1);
            rows[i][i] = mod(rows[i][i] - factor);
        }
        int[] pivotOf = new int[size];
        Arrays.fill(pivotOf, -1);
        int rank = 0;
        for (int c = 0; c < size; c++) {
            int r = rank;
            while (r < size && rows[r][c] == 0) {
                r++;
            }
            if (r == size) {
                continue;
            }
            int[] held = rows[r];
            rows[r] = rows[rank];
            rows[rank] = held;
            int first = held[c];
            for (int z = 0; z < size; z++) {
                held[z] = quotient(held[z], first, now.p);
            }
            for (int i = 0; i < size; i++) {
                int times = rows[i][c];
                if (i != rank && times != 0) {
                    for (int z = 0; z < size; z++) {
                        rows[i][z] = mod(rows[i][z] - times * held[z]);
                    }
                }
            }
            pivotOf[c] = rank++;
        }
        List<int[]> kernel = new ArrayList<>();
        List<Integer> free = new ArrayList<>();
        for (int c = 0; c < size; c++) {
            if (pivotOf[c] < 0) {
                int[] v = new int[size];
                v[c] = 1;
                for (int z = 0; z < size; z++) {
                    if (pivotOf[z] >= 0) {
                        v[z] = mod(-rows[pivotOf[z]][c]);
                    }
                }
                kernel.add(v);
                free.add(c);
            }
        }
        int[][] whole = within(sumMatrix(), some);
        int[][] told = new int[kernel.size()][kernel.size()];
        for (int i = 0; i < told.length; i++) {
            for (int k = 0; k < told.length; k++) {
                long all = 0;
                for (int z = 0; z < size; z++) {
                    all += kernel.get(i)[z] * whole[z][free.get(k)];
                }
                told[i][k] = mod(all);
            }
        }
        return told;
    }

    int poly(int m, int turn, int i) {
        if (noSector(m, turn) || (turn >= 0 && !now.ring)) {
            return -1;
        }
        int[] terms = polynomial(turn < 0 ? within(sumMatrix(), sector(m)) : turnMatrix(m, turn));
        return i < 0 || i >= terms.length ? -1 : terms[i];
    }

    private int timesRoot(int[] terms, int x) {
        int[] rest = terms;
        for (int times = 0; ; times++) {
            int[] q = new int[rest.length - 1];
            long carry = 0;
            for (int i = rest.length - 1; i > 0; i--) {
                carry = mod(carry * x + rest[i]);
                q[i - 1] = (int) carry;
            }
            if (mod(carry * x + rest[0]) != 0 || rest.length == 1) {
                return times;
            }
            rest = q;
        }
    }

    private List<Integer> owns(boolean ring, int d, int m) {
        int[] terms = polynomial(within(sumMatrix(ring, d), sector(m)));
        List<Integer> all = new ArrayList<>();
        for (int x = 0; x < now.p; x++) {
            if (timesRoot(terms, x) > 0) {
                all.add(x);
            }
        }
        return all;
    }

    int own(int m, int i) {
        if (m < 0 || m > now.n) {
            return -1;
        }
        List<Integer> all = owns(now.ring, now.d, m);
        return i == -1 ? all.size() : i < 0 || i >= all.size() ? -1 : all.get(i);
    }

    int often(int m, int x) {
        if (m < 0 || m > now.n || !isNumber(x)) {
            return -1;
        }
        return timesRoot(polynomial(within(sumMatrix(), sector(m))), x);
    }

    int root() {
        for (int x = 0; x < now.p; x++) {
            int all = 1;
            int least = 0;
            for (int j = 1; j <= now.n; j++) {
                all = mod(all * x);
                if (all == 1 && least == 0) {
                    least = j;
                }
            }
            if (least == now.n) {
                return x;
            }
        }
        return -1;
    }

    int mean(int m, int r) {
        if (m < 0 || m > now.n || r < 1 || r >= now.n) {
            return -1;
        }
        int all = 0;
        for (int s : sector(m)) {
            for (int i = 0; i < now.n; i++) {
                if (((s >> i) & 1) == ((s >> ((i + r) % now.n)) & 1)) {
                    all++;
                }
            }
        }
        return all;
    }

    private int[] times(int[] a, int[] b) {
        int[] c = new int[a.length + b.length - 1];
        for (int i = 0; i < a.length; i++) {
            for (int k = 0; k < b.length; k++) {
                c[i + k] = mod(c[i + k] + a[i] * b[k]);
            }
        }
        return c;
    }

    /** Q(z + h), by Horner. */
    private int[] moved(int[] q, int h) {
        int[] all = {0};
        for (int i = q.length - 1; i >= 0; i--) {
            all = times(all, new int[] {mod(h), 1});
            all[0] = mod(all[0] + q[i]);
        }
        return Arrays.copyOf(all, q.length);
    }

    /** T, or null if Q doesn't divide. */
    private int[] partner(int[] q) {
        int[] one = moved(q, -now.eta);
        int[] two = moved(q, now.eta);
        for (int i = 0; i < now.n; i++) {
            one = times(one, new int[] {now.eta, 1});
            two = times(two, new int[] {0, 1});
        }
        int[] all = new int[one.length];
        for (int i = 0; i < all.length; i++) {
            all[i] = mod(one[i] + two[i]);
        }
        int m = q.length - 1;
        int[] t = new int[all.length - m];
        for (int i = t.length - 1; i >= 0; i--) {
            t[i] = all[i + m];
            for (int k = 0; k <= m; k++) {
                all[i + k] = mod(all[i + k] - t[i] * q[k]);
            }
        }
        for (int left : all) {
            if (left != 0) {
                return null;
            }
        }
        return t;
    }

    int pair(int m, int i, int j) {
        if (m < 0 || m > 2 || i < -1) {
            return -1;
        }
        int many = 0;
        int tries = m == 0 ? 1 : m == 1 ? now.p : now.p * now.p;
        for (int k = 0; k < tries; k++) {
            int[] q = m == 0 ? new int[] {1} : m == 1 ? new int[] {k, 1} : new int[] {k % now.p, k / now.p, 1};
            int[] t = partner(q);
            if (t != null) {
                if (many == i) {
                    return told(q, t, m, j);
                }
                many++;
            }
        }
        return i == -1 ? many : -1;
    }

    private int told(int[] q, int[] t, int m, int j) {
        if (j >= 0 && j <= m) {
            return q[j];
        }
        if (j >= 10 && j <= 10 + now.n) {
            return t[j - 10];
        }
        if (j < 30 || j > 32) {
            return -1;
        }
        if (t[0] == 0) {
            return j == 32 ? 0 : -1;
        }
        int energy = quotient(mod(now.eta * t[1]), t[0], now.p);
        int etas = 1;
        for (int i = 0; i < now.n; i++) {
            etas = mod(etas * now.eta);
        }
        return j == 30 ? energy : j == 31 ? quotient(t[0], etas, now.p) : owns(true, 1, m).contains(energy) ? 1 : 0;
    }

    boolean set(int state) {
        if (!isState(state)) {
            return false;
        }
        now.vector = new int[states()];
        now.vector[state] = 1;
        now.done.clear();
        now.undone.clear();
        return true;
    }

    private int[] through(int[] v, int[][] m) {
        int[] w = new int[v.length];
        for (int x = 0; x < v.length; x++) {
            for (int y = 0; y < v.length; y++) {
                w[y] = mod(w[y] + v[x] * m[x][y]);
            }
        }
        return w;
    }

    boolean act(int act, int v) {
        int[] next = new int[states()];
        if (act == 0) {
            for (int s = 0; s < next.length; s++) {
                next[shift(s)] = now.vector[s];
            }
        } else if (act == 1 && v >= 0 && v < now.n) {
            for (int s = 0; s < next.length; s++) {
                next[s ^ (1 << v)] = now.vector[s];
            }
        } else if (act == 2) {
            next = through(now.vector, sumMatrix());
        } else if (act == 3 && isNumber(v)) {
            next = through(now.vector, tableMatrix(v));
        } else {
            return false;
        }
        now.done.addLast(now.vector);
        if (now.done.size() > 20) {
            now.done.removeFirst();
        }
        now.undone.clear();
        now.vector = next;
        return true;
    }

    int played(int text) {
        if (text < 0 || text >= now.texts.size()) {
            return -2;
        }
        List<Clause> clauses = now.texts.get(text);
        for (int i = 0; i < clauses.size(); i++) {
            Clause c = clauses.get(i);
            boolean can = switch (c.head) {
                case "shift" -> act(0, 0);
                case "flip" -> act(1, c.letter);
                case "sum" -> act(2, 0);
                case "table" -> act(3, c.expr.of(0, now.eta, now.d, now.p));
                default -> true;
            };
            if (!can) {
                return i;
            }
        }
        return -1;
    }

    int undo() {
        if (now.done.isEmpty()) {
            return -1;
        }
        now.undone.addLast(now.vector);
        now.vector = now.done.removeLast();
        return now.done.size();
    }

    int redo() {
        if (now.undone.isEmpty()) {
            return -1;
        }
        now.done.addLast(now.vector);
        now.vector = now.undone.removeLast();
        return now.undone.size();
    }

    int at(int state) {
        return isState(state) ? now.vector[state] : -1;
    }

    int norm() {
        long all = 0;
        for (int x : now.vector) {
            all += x * x;
        }
        return mod(all);
    }

    int power(int x, int j, int y) {
        if (!isState(x) || !isState(y) || j < 0 || j > 99) {
            return -1;
        }
        int[] v = new int[states()];
        v[x] = 1;
        int[][] m = sumMatrix();
        for (int i = 0; i < j; i++) {
            v = through(v, m);
        }
        return v[y];
    }

    int image() {
        image = now.copy();
        return now.n;
    }

    int back() {
        now = image.copy();
        return now.n;
    }

    int about(int what) {
        int[] all = {now.n, now.ring ? 1 : 0, now.p, now.eta, now.d, now.texts.size(), now.told,
            now.done.size(), now.undone.size(), tape.length};
        return what < 0 || what >= all.length ? -2 : all[what];
    }

    /** The language, read from a list of tokens; a fault is thrown. */
    private static final class Parser {
        private final List<Token> tokens = new ArrayList<>();
        private int next = 0;
        private boolean inTable = false;

        Parser(byte[] bytes) {
            String all = new String(bytes, java.nio.charset.StandardCharsets.ISO_8859_1);
            java.util.regex.Matcher m = java.util.regex.Pattern.compile("[a-zA-Z]+|[0-9]+|[^ \\n]",
                    java.util.regex.Pattern.DOTALL).matcher(all);
            while (m.find()) {
                tokens.add(new Token(m.group(), m.start()));
            }
            tokens.add(new Token("", bytes.length));
        }

        private String sign() {
            return tokens.get(next).sign;
        }

        private Fault fault(int why) {
            return new Fault(why, tokens.get(next).place);
        }

        private void take(String sign) {
            if (!sign().equals(sign)) {
                throw fault(1);
            }
            next++;
        }

        List<Clause> parse() {
            List<Clause> all = new ArrayList<>();
            while (!sign().isEmpty()) {
                String head = sign();
                if (!List.of("a", "b", "c", "shift", "flip", "sum", "table").contains(head)) {
                    throw fault(1);
                }
                if (head.length() == 1 && all.stream().anyMatch(c -> c.head.equals(head))) {
                    throw fault(4);
                }
                if (all.size() == 30) {
                    throw fault(6);
                }
                next++;
                inTable = head.equals("table");
                Expr e = null;
                int letter = -1;
                if (head.equals("flip")) {
                    letter = number(6);
                } else if (head.length() == 1 || inTable) {
                    e = sum(0);
                }
                take(";");
                all.add(new Clause(head, e, letter));
            }
            return all;
        }

        private int number(int most) {
            if (!sign().matches("[0-9]+")) {
                throw fault(1);
            }
            java.math.BigInteger x = new java.math.BigInteger(sign());
            if (x.compareTo(java.math.BigInteger.valueOf(most)) > 0) {
                throw fault(2);
            }
            next++;
            return x.intValue();
        }

        private Expr sum(int open) {
            Expr all = product(open);
            while (sign().equals("+") || sign().equals("-")) {
                boolean plus = sign().equals("+");
                next++;
                Expr x = all;
                Expr y = product(open);
                all = (u, eta, d, p) -> {
                    int one = x.of(u, eta, d, p);
                    int two = y.of(u, eta, d, p);
                    return plus ? (one + two) % p : (one - two + p) % p;
                };
            }
            return all;
        }

        private Expr product(int open) {
            Expr all = one(open);
            while (sign().equals("*") || sign().equals("/")) {
                boolean times = sign().equals("*");
                next++;
                Expr x = all;
                Expr y = one(open);
                all = (u, eta, d, p) -> {
                    int one = x.of(u, eta, d, p);
                    int two = y.of(u, eta, d, p);
                    return times ? one * two % p : quotient(one, two, p);
                };
            }
            return all;
        }

        private Expr one(int open) {
            String sign = sign();
            if (sign.matches("[0-9]+")) {
                int x = number(9999);
                return (u, eta, d, p) -> x % p;
            }
            switch (sign) {
                case "u":
                    if (inTable) {
                        throw fault(5);
                    }
                    next++;
                    return (u, eta, d, p) -> u;
                case "eta":
                    next++;
                    return (u, eta, d, p) -> eta;
                case "d":
                    next++;
                    return (u, eta, d, p) -> d;
                case "(": {
                    if (open == 8) {
                        throw fault(3);
                    }
                    next++;
                    Expr e = sum(open + 1);
                    take(")");
                    return e;
                }
                case "-": {
                    if (open == 8) {
                        throw fault(3);
                    }
                    next++;
                    Expr e = one(open + 1);
                    return (u, eta, d, p) -> (p - e.of(u, eta, d, p)) % p;
                }
                default:
                    throw fault(1);
            }
        }
    }
}
