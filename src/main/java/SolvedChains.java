/**
 * Chains of letters up and down that are solved by a prime: the document's promises 1 to 34.
 * Every row that a call needs is made in the constructor and used again, so that calls make nothing.
 */
public final class SolvedChains {
    public static final int NONE = -1;

    private static final int OTHERS = -2;
    private static final int LEAST_LETTERS = 2;
    private static final int MOST_LETTERS = 7;
    private static final int STATES = 128;
    private static final int WIDEST_SECTOR = 35;
    private static final int LEAST_PRIME = 5;
    private static final int MOST_PRIME = 97;
    private static final int POWERS = 100;
    private static final int MOST_TEXTS = 4;
    private static final int MOST_PAIRED = 2;

    private final Standing now;
    private final Standing kept;
    private final Tape tape = new Tape();
    private final Script[] scripts = new Script[MOST_TEXTS];
    private final Script untold = new Script();
    private final Reader reader = new Reader(tape, untold);
    private final Exchange exchange = new Exchange();
    private final Basis basis = new Basis();
    private final Spectrum spectrum = new Spectrum(basis);
    private final Products products = new Products(basis);
    private final Pairs pairs = new Pairs();
    private final Rule ringRule = new Rule();
    private final int[] from = new int[STATES];
    private final int[] to = new int[STATES];

    public SolvedChains(int n) {
        int letters = Math.max(LEAST_LETTERS, Math.min(MOST_LETTERS, n));
        now = new Standing(letters);
        kept = new Standing(letters);
        for (int i = 0; i < scripts.length; i++) {
            scripts[i] = new Script();
        }
    }

    public boolean chain(int n, boolean ring) {
        if (n < LEAST_LETTERS || n > MOST_LETTERS) {
            return false;
        }
        now.rule.n = n;
        now.rule.ring = ring;
        now.history.restart();
        return true;
    }

    public boolean prime(int p) {
        if (!isPrime(p)) {
            return false;
        }
        Rule rule = now.rule;
        rule.p = p;
        rule.d = left(rule.d, p);
        rule.eta = Math.max(1, left(rule.eta, p));
        now.history.takeBy(p);
        return true;
    }

    public boolean numbers(int eta, int d) {
        Rule rule = now.rule;
        if (eta == 0 || !rule.isNumber(eta) || !rule.isNumber(d)) {
            return false;
        }
        rule.eta = eta;
        rule.d = d;
        return true;
    }

    public int feed(int a, int b, int c, int d, int e) {
        if (tape.length + 20 > Tape.ROOM) {
            return NONE;
        }
        tape.add(a);
        tape.add(b);
        tape.add(c);
        tape.add(d);
        tape.add(e);
        return tape.length;
    }

    public int end(int n) {
        if (n < 0 || n > tape.length) {
            return NONE;
        }
        tape.length = n;
        return n;
    }

    public int text() {
        int number = now.texts;
        if (number < 0 || number >= scripts.length) {
            return NONE;
        }
        boolean sound = reader.readInto(scripts[number]);
        tape.length = 0;
        if (!sound) {
            return NONE;
        }
        now.texts = number + 1;
        return number;
    }

    public int fault(int what) {
        if (!reader.hasRead()) {
            return NONE;
        }
        return what == 0 ? reader.refusal : what == 1 ? reader.place : NONE;
    }

    public boolean by(int text) {
        if (text != NONE && !isText(text)) {
            return false;
        }
        now.told = text;
        return true;
    }

    public int weight(int which, int u) {
        if (which < 0 || which > 2 || !now.rule.isNumber(u)) {
            return NONE;
        }
        return toldScript().worth(which, u, now.rule);
    }

    public int equation(int what) {
        if (what < 0 || what > 2) {
            return NONE;
        }
        exchange.look(now.rule, toldScript());
        exchange.askAllPairs();
        return what == 0 ? exchange.held : what == 1 ? exchange.brokenU : exchange.brokenV;
    }

    public int sum(int x, int y) {
        Rule rule = now.rule;
        return rule.isState(x) && rule.isState(y) ? rule.sumBetween(x, y) : NONE;
    }

    public int table(int u, int x, int y) {
        Rule rule = now.rule;
        if (!rule.isNumber(u) || !rule.isState(x) || !rule.isState(y)) {
            return NONE;
        }
        exchange.look(rule, toldScript());
        return exchange.tableBetween(u, x, y);
    }

    public boolean commute(int u, int v) {
        Rule rule = now.rule;
        if (!rule.isNumber(u) || !rule.isNumber(v)) {
            return false;
        }
        return agreesInSectors(u, v);
    }

    public boolean keeps(int u) {
        return now.rule.isNumber(u) && agreesInSectors(u, NONE);
    }

    public int size(int m, int turn) {
        if (!hasSector(m, turn)) {
            return NONE;
        }
        basis.gather(now.rule, m, turn);
        return basis.width;
    }

    public int trace(int m, int j) {
        if (!now.rule.isCount(m) || j < 0 || j >= POWERS) {
            return NONE;
        }
        spectrum.look(now.rule, m, NONE);
        return spectrum.traceOf(j);
    }

    public int poly(int m, int turn, int i) {
        if (!hasSector(m, turn) || (turn != NONE && !now.rule.ring)) {
            return NONE;
        }
        spectrum.look(now.rule, m, turn);
        return i >= 0 && i <= spectrum.degree ? spectrum.terms[i] : NONE;
    }

    public int own(int m, int i) {
        if (!now.rule.isCount(m) || i < NONE) {
            return NONE;
        }
        spectrum.look(now.rule, m, NONE);
        return i == NONE ? spectrum.howManyOwn() : spectrum.ownAt(i);
    }

    public int often(int m, int x) {
        if (!now.rule.isCount(m) || !now.rule.isNumber(x)) {
            return NONE;
        }
        spectrum.look(now.rule, m, NONE);
        return spectrum.howOften(x);
    }

    public int root() {
        return now.rule.leastRoot();
    }

    public int mean(int m, int r) {
        Rule rule = now.rule;
        if (!rule.isCount(m) || r < 1 || r >= rule.n) {
            return NONE;
        }
        int alike = 0;
        for (int s = 0; s < rule.states(); s++) {
            if (Integer.bitCount(s) == m) {
                alike += rule.alikeAt(s, r);
            }
        }
        return alike;
    }

    public int pair(int m, int i, int j) {
        Rule rule = now.rule;
        if (m < 0 || m > MOST_PAIRED || i < NONE) {
            return NONE;
        }
        if (i == NONE) {
            return pairs.howMany(rule, m);
        }
        if (!pairs.find(rule, m, i)) {
            return NONE;
        }
        if (j >= 0 && j <= m) {
            return pairs.q[j];
        }
        if (j >= 10 && j <= 10 + rule.n) {
            return pairs.t[j - 10];
        }
        switch (j) {
            case 30: return pairs.energy(rule);
            case 31: return pairs.move(rule);
            case 32: return isTrue(m, pairs.energy(rule));
            default: return NONE;
        }
    }

    public boolean set(int state) {
        if (!now.rule.isState(state)) {
            return false;
        }
        now.history.restart();
        now.history.vector()[state] = 1;
        return true;
    }

    public boolean act(int act, int v) {
        return enact(act, v);
    }

    public int played(int text) {
        if (!isText(text)) {
            return OTHERS;
        }
        Script script = scripts[text];
        for (int i = 0; i < script.clauses; i++) {
            int act = script.kindOf(i) - Script.SHIFT;
            if (act >= 0 && !enact(act, script.argument(i, now.rule))) {
                return i;
            }
        }
        return NONE;
    }

    public int undo() {
        History history = now.history;
        if (history.done == 0) {
            return NONE;
        }
        history.done--;
        history.undone++;
        return history.done;
    }

    public int redo() {
        History history = now.history;
        if (history.undone == 0) {
            return NONE;
        }
        history.undone--;
        history.done++;
        return history.undone;
    }

    public int at(int state) {
        return now.rule.isState(state) ? now.history.vector()[state] : NONE;
    }

    public int norm() {
        int[] vector = now.history.vector();
        int all = 0;
        for (int s = 0; s < now.rule.states(); s++) {
            all += vector[s] * vector[s];
        }
        return left(all, now.rule.p);
    }

    public int power(int x, int j, int y) {
        Rule rule = now.rule;
        if (!rule.isState(x) || !rule.isState(y) || j < 0 || j >= POWERS) {
            return NONE;
        }
        clear(from);
        from[x] = 1;
        for (int i = 0; i < j; i++) {
            rule.sumOver(from, to);
            System.arraycopy(to, 0, from, 0, STATES);
        }
        return from[y];
    }

    public int image() {
        kept.copyFrom(now);
        return now.rule.n;
    }

    public int back() {
        now.copyFrom(kept);
        return now.rule.n;
    }

    public int about(int what) {
        switch (what) {
            case 0: return now.rule.n;
            case 1: return now.rule.ring ? 1 : 0;
            case 2: return now.rule.p;
            case 3: return now.rule.eta;
            case 4: return now.rule.d;
            case 5: return now.texts;
            case 6: return now.told;
            case 7: return now.history.done;
            case 8: return now.history.undone;
            case 9: return tape.length;
            default: return OTHERS;
        }
    }

    private boolean isText(int text) {
        return text >= 0 && text < now.texts && text < scripts.length;
    }

    private Script toldScript() {
        return isText(now.told) ? scripts[now.told] : untold;
    }

    private boolean hasSector(int m, int turn) {
        Rule rule = now.rule;
        if (!rule.isCount(m)) {
            return false;
        }
        return turn == NONE || (turn >= 0 && turn < rule.n && rule.leastRoot() != NONE);
    }

    /** Whether the table for u commutes with that for v, or with the sum if v is NONE. */
    private boolean agreesInSectors(int u, int v) {
        Rule rule = now.rule;
        exchange.look(rule, toldScript());
        boolean agrees = true;
        // Neither the tables nor the sum tell up from down, so the upper half of the counts says nothing new.
        for (int m = 0; agrees && 2 * m <= rule.n; m++) {
            basis.gather(rule, m, NONE);
            products.fillTable(exchange, u, products.ahead);
            if (v == NONE) {
                basis.fillSum(rule, products.behind);
            } else {
                products.fillTable(exchange, v, products.behind);
            }
            agrees = products.agree(rule.p);
        }
        return agrees;
    }

    private boolean enact(int act, int v) {
        Rule rule = now.rule;
        boolean can = act == 0 || act == 2
                || (act == 1 && v >= 0 && v < rule.n)
                || (act == 3 && rule.isNumber(v));
        if (!can) {
            return false;
        }
        now.history.open();
        int[] old = now.history.earlier();
        int[] young = now.history.vector();
        switch (act) {
            case 0:
                rule.shiftOver(old, young);
                break;
            case 1:
                rule.turnOver(v, old, young);
                break;
            case 2:
                rule.sumOver(old, young);
                break;
            default:
                exchange.look(rule, toldScript());
                exchange.tableOver(v, old, young);
                break;
        }
        return true;
    }

    private int isTrue(int m, int energy) {
        if (energy == NONE) {
            return 0;
        }
        ringRule.copyFrom(now.rule);
        ringRule.ring = true;
        ringRule.d = 1;
        spectrum.look(ringRule, m, NONE);
        return spectrum.valueAt(energy) == 0 ? 1 : 0;
    }

    private static boolean isPrime(int p) {
        if (p < LEAST_PRIME || p > MOST_PRIME) {
            return false;
        }
        for (int i = 2; i * i <= p; i++) {
            if (p % i == 0) {
                return false;
            }
        }
        return true;
    }

    private static int left(int x, int p) {
        if (p <= 0) {
            return 0;
        }
        int rest = x % p;
        return rest < 0 ? rest + p : rest;
    }

    private static int raised(int x, int j, int p) {
        if (p <= 0) {
            return 0;
        }
        int all = 1;
        int square = x % p;
        for (int rest = j; rest > 0; rest >>= 1) {
            if ((rest & 1) == 1) {
                all = all * square % p;
            }
            square = square * square % p;
        }
        return all;
    }

    /** That times y which leaves x; by Fermat, so that it is 0 for y 0 as the document asks. */
    private static int over(int x, int y, int p) {
        return left(x * raised(y, p - 2, p), p);
    }

    private static void clear(int[] row) {
        for (int i = 0; i < row.length; i++) {
            row[i] = 0;
        }
    }

    /** The chain and its numbers; it is also what tells whether something reckoned earlier still holds. */
    private static final class Rule {
        int n = LEAST_LETTERS;
        boolean ring = true;
        int p = 13;
        int eta = 1;
        int d = 1;

        void copyFrom(Rule other) {
            n = other.n;
            ring = other.ring;
            p = other.p;
            eta = other.eta;
            d = other.d;
        }

        boolean isLike(Rule other) {
            return n == other.n && ring == other.ring && p == other.p && eta == other.eta && d == other.d;
        }

        int states() {
            return 1 << n;
        }

        boolean isState(int s) {
            return s >= 0 && s < states();
        }

        boolean isNumber(int x) {
            return x >= 0 && x < p;
        }

        boolean isCount(int m) {
            return m >= 0 && m <= n;
        }

        int bonds() {
            return ring ? n : n - 1;
        }

        /** The two letters of bond i as bits. */
        int bond(int i) {
            return (1 << i) | (1 << (i + 1 == n ? 0 : i + 1));
        }

        static boolean areAlike(int s, int two) {
            int both = s & two;
            return both == 0 || both == two;
        }

        int shifted(int s) {
            return ((s << 1) | (s >> (n - 1))) & (states() - 1);
        }

        int sumBetween(int x, int y) {
            int all = 0;
            for (int i = 0; i < bonds(); i++) {
                int two = bond(i);
                boolean alike = areAlike(x, two);
                if (alike && x == y) {
                    all += d;
                } else if (!alike && (x ^ two) == y) {
                    all++;
                }
            }
            return left(all, p);
        }

        void sumOver(int[] old, int[] young) {
            clear(young);
            for (int s = 0; s < states(); s++) {
                if (old[s] != 0) {
                    addSumOf(s, old[s], young);
                }
            }
            for (int s = 0; s < states(); s++) {
                young[s] = left(young[s], p);
            }
        }

        private void addSumOf(int s, int much, int[] young) {
            for (int i = 0; i < bonds(); i++) {
                int two = bond(i);
                if (areAlike(s, two)) {
                    young[s] += d * much;
                } else {
                    young[s ^ two] += much;
                }
            }
        }

        void shiftOver(int[] old, int[] young) {
            for (int s = 0; s < states(); s++) {
                young[shifted(s)] = old[s];
            }
        }

        void turnOver(int letter, int[] old, int[] young) {
            for (int s = 0; s < states(); s++) {
                young[s ^ (1 << letter)] = old[s];
            }
        }

        int alikeAt(int s, int r) {
            int alike = 0;
            for (int i = 0; i < n; i++) {
                int other = i + r < n ? i + r : i + r - n;
                if (((s >> i) & 1) == ((s >> other) & 1)) {
                    alike++;
                }
            }
            return alike;
        }

        int leastRoot() {
            for (int x = 1; x < p; x++) {
                if (isRoot(x)) {
                    return x;
                }
            }
            return NONE;
        }

        private boolean isRoot(int x) {
            int all = 1;
            for (int j = 1; j < n; j++) {
                all = left(all * x, p);
                if (all == 1) {
                    return false;
                }
            }
            return left(all * x, p) == 1;
        }
    }

    /** The vector with those before it and those undone, as rows on a ring: row `done` is the vector. */
    private static final class History {
        private static final int MOST = 20;
        private final int[][] rows = new int[MOST + 1][STATES];
        private int first = 0;
        int done = 0;
        int undone = 0;

        private int[] row(int k) {
            return rows[Math.floorMod(first + k, MOST + 1)];
        }

        int[] vector() {
            return row(done);
        }

        int[] earlier() {
            return row(done - 1);
        }

        /** Makes room for one more vector behind this one; the oldest goes if all rows are taken. */
        void open() {
            undone = 0;
            if (done < MOST) {
                done++;
            } else {
                first = first < MOST ? first + 1 : 0;
            }
        }

        void restart() {
            first = 0;
            done = 0;
            undone = 0;
            clear(rows[0]);
        }

        void takeBy(int p) {
            for (int k = 0; k <= done + undone; k++) {
                int[] one = row(k);
                for (int s = 0; s < one.length; s++) {
                    one[s] = left(one[s], p);
                }
            }
        }

        void copyFrom(History other) {
            first = 0;
            done = other.done;
            undone = other.undone;
            for (int k = 0; k <= done + undone; k++) {
                System.arraycopy(other.row(k), 0, row(k), 0, STATES);
            }
        }
    }

    /** All that an image keeps. Texts are only ever added behind those of the image, so their number is enough. */
    private static final class Standing {
        final Rule rule = new Rule();
        final History history = new History();
        int texts = 0;
        int told = NONE;

        Standing(int n) {
            rule.n = n;
        }

        void copyFrom(Standing other) {
            rule.copyFrom(other.rule);
            history.copyFrom(other.history);
            texts = other.texts;
            told = other.told;
        }
    }

    /** The bytes that were fed, and the tokens they are split into when they are read. */
    private static final class Tape {
        static final int ROOM = 300;
        /** A token is one number: the byte itself if it is no letter or digit, one of these, or NUMBER and more. */
        static final int END = -1;
        static final int UNKNOWN = 256;
        /** The words of the clauses stand in the order of the kinds of Script. */
        static final int CLAUSE = 257;
        static final int U = 270;
        static final int ETA = 271;
        static final int D = 272;
        static final int NUMBER = 300;
        static final int MOST_NUMBER = 9999;

        private final int[] bytes = new int[ROOM];
        final int[] tokens = new int[ROOM + 1];
        private final int[] starts = new int[ROOM + 1];
        int length = 0;

        void add(int four) {
            for (int shift = 24; shift >= 0; shift -= 8) {
                if (length < ROOM) {
                    bytes[length] = (four >> shift) & 255;
                    length++;
                }
            }
        }

        int start(int i) {
            return i >= 0 && i < starts.length ? starts[i] : length;
        }

        void split() {
            int many = 0;
            int stop = 0;
            for (int i = 0; i < length; i++) {
                if (i >= stop && bytes[i] != 32 && bytes[i] != 10) {
                    stop = stopOf(i);
                    starts[many] = i;
                    tokens[many] = tokenOf(i, stop);
                    many++;
                }
            }
            starts[many] = length;
            tokens[many] = END;
        }

        /** Letters behind letters and digits behind digits are one token; all else is one byte. */
        private int stopOf(int start) {
            int sort = sortOf(bytes[start]);
            int stop = start + 1;
            while (stop < length && sort != 0 && sortOf(bytes[stop]) == sort) {
                stop++;
            }
            return stop;
        }

        private static int sortOf(int sign) {
            if ((sign >= 'a' && sign <= 'z') || (sign >= 'A' && sign <= 'Z')) {
                return 1;
            }
            return sign >= '0' && sign <= '9' ? 2 : 0;
        }

        private int tokenOf(int start, int stop) {
            int sort = sortOf(bytes[start]);
            return sort == 1 ? wordOf(start, stop) : sort == 2 ? numberOf(start, stop) : bytes[start];
        }

        private int numberOf(int start, int stop) {
            int number = 0;
            for (int i = start; i < stop; i++) {
                // Held just above the limit, so that no row of digits can wrap around.
                number = Math.min(MOST_NUMBER + 1, number * 10 + bytes[i] - '0');
            }
            return NUMBER + number;
        }

        private int wordOf(int start, int stop) {
            if (stop - start == 1) {
                return letterWord(bytes[start]);
            }
            if (isWord("shift", start, stop)) {
                return CLAUSE + Script.SHIFT;
            }
            if (isWord("flip", start, stop)) {
                return CLAUSE + Script.FLIP;
            }
            if (isWord("sum", start, stop)) {
                return CLAUSE + Script.SUM;
            }
            if (isWord("table", start, stop)) {
                return CLAUSE + Script.TABLE;
            }
            return isWord("eta", start, stop) ? ETA : UNKNOWN;
        }

        private static int letterWord(int letter) {
            switch (letter) {
                case 'a': return CLAUSE + Script.A;
                case 'b': return CLAUSE + Script.B;
                case 'c': return CLAUSE + Script.C;
                case 'u': return U;
                case 'd': return D;
                default: return UNKNOWN;
            }
        }

        private boolean isWord(String word, int start, int stop) {
            if (stop - start != word.length()) {
                return false;
            }
            for (int i = 0; i < word.length(); i++) {
                if (bytes[start + i] != word.charAt(i)) {
                    return false;
                }
            }
            return true;
        }
    }

    /** A text that was read: its clauses, their expressions with each sign behind what it joins. */
    private static final class Script {
        static final int MOST_CLAUSES = 30;
        static final int A = 0;
        static final int B = 1;
        static final int C = 2;
        static final int SHIFT = 3;
        static final int FLIP = 4;
        static final int SUM = 5;
        static final int TABLE = 6;
        static final int U = -1;
        static final int ETA = -2;
        static final int D = -3;
        static final int NEGATE = -4;
        static final int PLUS = -5;
        static final int LESS = -6;
        static final int TIMES = -7;
        static final int OVER = -8;
        /** Far above what eight open brackets can leave waiting: two for each. */
        private static final int WAITING = 40;

        int clauses = 0;
        private final int[] kinds = new int[MOST_CLAUSES];
        private final int[] starts = new int[MOST_CLAUSES + 1];
        private final int[] code = new int[Tape.ROOM];
        private final int[] weightClauses = {NONE, NONE, NONE};
        private final int[] waiting = new int[WAITING];
        /** Which reading of the object this is (0: never read), so that what was reckoned of it is known again. */
        int reading = 0;

        void restart(int number) {
            clauses = 0;
            starts[0] = 0;
            for (int i = 0; i < weightClauses.length; i++) {
                weightClauses[i] = NONE;
            }
            reading = number;
        }

        boolean hasWeight(int kind) {
            return kind >= 0 && kind < weightClauses.length && weightClauses[kind] != NONE;
        }

        void open(int kind) {
            if (clauses < MOST_CLAUSES) {
                kinds[clauses] = kind;
                if (kind >= 0 && kind < weightClauses.length) {
                    weightClauses[kind] = clauses;
                }
                clauses++;
                starts[clauses] = starts[clauses - 1];
            }
        }

        void add(int word) {
            int end = starts[clauses];
            if (end < code.length) {
                code[end] = word;
                starts[clauses] = end + 1;
            }
        }

        int kindOf(int clause) {
            return clause >= 0 && clause < clauses ? kinds[clause] : NONE;
        }

        /** The letter of a flip, the number of a table; 0 for clauses that have neither. */
        int argument(int clause, Rule rule) {
            int kind = kindOf(clause);
            if (kind == FLIP) {
                return code[starts[clause]];
            }
            return kind == TABLE ? reckoned(clause, 0, rule) : 0;
        }

        int worth(int which, int u, Rule rule) {
            if (hasWeight(which)) {
                return reckoned(weightClauses[which], u, rule);
            }
            return left(which == A ? u + rule.eta : which == B ? u : rule.eta, rule.p);
        }

        private int reckoned(int clause, int u, Rule rule) {
            int top = 0;
            for (int i = starts[clause]; i < starts[clause + 1]; i++) {
                int word = code[i];
                if (word >= D) {
                    if (top < waiting.length) {
                        waiting[top] = left(word >= 0 ? word : named(word, u, rule), rule.p);
                        top++;
                    }
                } else if (word == NEGATE) {
                    if (top > 0) {
                        waiting[top - 1] = left(-waiting[top - 1], rule.p);
                    }
                } else if (top > 1) {
                    top--;
                    waiting[top - 1] = joined(word, waiting[top - 1], waiting[top], rule.p);
                }
            }
            return top > 0 ? waiting[top - 1] : 0;
        }

        private static int named(int word, int u, Rule rule) {
            return word == U ? u : word == ETA ? rule.eta : rule.d;
        }

        private static int joined(int word, int x, int y, int p) {
            switch (word) {
                case PLUS: return left(x + y, p);
                case LESS: return left(x - y, p);
                case TIMES: return left(x * y, p);
                default: return left(x * raised(y, p - 2, p), p);
            }
        }
    }

    /** Reads the tape, token by token, into a script, and stops at the first token that has a fault. */
    private static final class Reader {
        private static final int MOST_OPEN = 8;
        private static final int MOST_LETTER = 6;

        private final Tape tape;
        private Script script;
        private int next = 0;
        private int token = Tape.END;
        private boolean inTable = false;
        private int readings = 0;
        int refusal = 0;
        int place = NONE;

        Reader(Tape tape, Script script) {
            this.tape = tape;
            this.script = script;
        }

        boolean hasRead() {
            return readings > 0;
        }

        boolean readInto(Script empty) {
            readings++;
            script = empty;
            script.restart(readings);
            refusal = 0;
            tape.split();
            next = NONE;
            advance();
            boolean sound = true;
            for (int i = 0; sound && token != Tape.END && i <= Script.MOST_CLAUSES; i++) {
                sound = readClause();
            }
            // No token is passed behind a refused one, so the next token is that one still.
            place = sound ? NONE : tape.start(next);
            return sound;
        }

        private void advance() {
            next++;
            token = next < tape.tokens.length ? tape.tokens[next] : Tape.END;
        }

        private boolean refuse(int why) {
            refusal = why;
            return false;
        }

        private boolean pass(int sign) {
            if (token != sign) {
                return refuse(1);
            }
            advance();
            return true;
        }

        private boolean readClause() {
            int kind = token - Tape.CLAUSE;
            if (kind < Script.A || kind > Script.TABLE) {
                return refuse(1);
            }
            if (script.hasWeight(kind)) {
                return refuse(4);
            }
            if (script.clauses >= Script.MOST_CLAUSES) {
                return refuse(6);
            }
            script.open(kind);
            advance();
            inTable = kind == Script.TABLE;
            boolean sound = true;
            if (kind == Script.FLIP) {
                sound = readNumber(MOST_LETTER);
            } else if (kind != Script.SHIFT && kind != Script.SUM) {
                sound = readSum(0);
            }
            return sound && pass(';');
        }

        private boolean readSum(int open) {
            boolean sound = readProduct(open);
            for (int i = 0; i < Tape.ROOM && sound && (token == '+' || token == '-'); i++) {
                int sign = token == '+' ? Script.PLUS : Script.LESS;
                advance();
                sound = readProduct(open);
                script.add(sign);
            }
            return sound;
        }

        private boolean readProduct(int open) {
            boolean sound = readOne(open);
            for (int i = 0; i < Tape.ROOM && sound && (token == '*' || token == '/'); i++) {
                int sign = token == '*' ? Script.TIMES : Script.OVER;
                advance();
                sound = readOne(open);
                script.add(sign);
            }
            return sound;
        }

        private boolean readOne(int open) {
            if (token >= Tape.NUMBER) {
                return readNumber(Tape.MOST_NUMBER);
            }
            if (token != '(' && token != '-') {
                return readName();
            }
            if (open >= MOST_OPEN) {
                return refuse(3);
            }
            boolean bracket = token == '(';
            advance();
            if (bracket) {
                return readSum(open + 1) && pass(')');
            }
            boolean sound = readOne(open + 1);
            script.add(Script.NEGATE);
            return sound;
        }

        private boolean readNumber(int most) {
            if (token < Tape.NUMBER) {
                return refuse(1);
            }
            if (token - Tape.NUMBER > most) {
                return refuse(2);
            }
            script.add(token - Tape.NUMBER);
            advance();
            return true;
        }

        private boolean readName() {
            if (token != Tape.U && token != Tape.ETA && token != Tape.D) {
                return refuse(1);
            }
            if (token == Tape.U && inTable) {
                return refuse(5);
            }
            script.add(token == Tape.U ? Script.U : token == Tape.ETA ? Script.ETA : Script.D);
            advance();
            return true;
        }
    }

    /** The weights of the told text for every number, the exchange equation and the transfer table by them. */
    private static final class Exchange {
        private final int[] a = new int[MOST_PRIME];
        private final int[] b = new int[MOST_PRIME];
        private final int[] c = new int[MOST_PRIME];
        private final int[] beside = new int[2 * STATES];
        private final Rule seen = new Rule();
        private int seenReading = NONE;
        private boolean asked = false;
        int held = 0;
        int brokenU = NONE;
        int brokenV = NONE;

        void look(Rule rule, Script script) {
            if (seenReading == script.reading && seen.isLike(rule)) {
                return;
            }
            seenReading = script.reading;
            seen.copyFrom(rule);
            asked = false;
            for (int u = 0; u < rule.p && u < MOST_PRIME; u++) {
                a[u] = script.worth(0, u, rule);
                b[u] = script.worth(1, u, rule);
                c[u] = script.worth(2, u, rule);
            }
        }

        void askAllPairs() {
            if (asked) {
                return;
            }
            asked = true;
            held = 0;
            brokenU = NONE;
            brokenV = NONE;
            for (int u = 0; u < seen.p && u < MOST_PRIME; u++) {
                for (int v = 0; v < seen.p && v < MOST_PRIME; v++) {
                    if (holds(u, v)) {
                        held++;
                    } else if (brokenU == NONE) {
                        brokenU = u;
                        brokenV = v;
                    }
                }
            }
        }

        /**
         * Three letters keep their count and don't tell up from down, so one letter up among three says all;
         * the two sides are then one table of three by three and its mirror, which differ in three places at most.
         */
        private boolean holds(int u, int v) {
            int w = u >= v ? u - v : u - v + seen.p;
            int p = seen.p;
            int oneTwo = a[v] * b[u] * c[w] - b[v] * a[u] * c[w] - c[v] * c[u] * b[w];
            int oneThree = a[v] * c[u] * a[w] - c[v] * a[u] * c[w] - b[v] * c[u] * b[w];
            int twoThree = c[v] * b[u] * a[w] - c[v] * a[u] * b[w] - b[v] * c[u] * c[w];
            return left(oneTwo, p) == 0 && left(oneThree, p) == 0 && left(twoThree, p) == 0;
        }

        int tableBetween(int u, int x, int y) {
            if (Integer.bitCount(x) != Integer.bitCount(y)) {
                return 0;
            }
            return left(wayBetween(0, u, x, y) + wayBetween(1, u, x, y), seen.p);
        }

        /** The one way that the letter beside can take from x to y, since each step tells what it is then. */
        private int wayBetween(int first, int u, int x, int y) {
            int e = first;
            int much = 1;
            for (int i = 0; i < seen.n && much != 0; i++) {
                int old = (x >> i) & 1;
                int young = (y >> i) & 1;
                if (old == young) {
                    much = left(much * (old == e ? a[u] : b[u]), seen.p);
                } else if (old != e) {
                    much = left(much * c[u], seen.p);
                    e = old;
                } else {
                    much = 0;
                }
            }
            return e == first ? much : 0;
        }

        void tableOver(int u, int[] old, int[] young) {
            clear(young);
            int states = seen.states();
            for (int first = 0; first < 2; first++) {
                clear(beside);
                System.arraycopy(old, 0, beside, first * states, states);
                for (int i = 0; i < seen.n; i++) {
                    passLetter(i, u, states);
                }
                for (int s = 0; s < states; s++) {
                    young[s] = left(young[s] + beside[first * states + s], seen.p);
                }
            }
        }

        /** The letter beside is the bit above all states; it is exchanged with letter i. */
        private void passLetter(int i, int u, int states) {
            int bit = 1 << i;
            for (int s = 0; s < states; s++) {
                if ((s & bit) == 0) {
                    int low = s;
                    int high = states + s + bit;
                    beside[low] = left(a[u] * beside[low], seen.p);
                    beside[high] = left(a[u] * beside[high], seen.p);
                    int up = s + bit;
                    int apart = states + s;
                    int much = beside[up];
                    beside[up] = left(b[u] * much + c[u] * beside[apart], seen.p);
                    beside[apart] = left(b[u] * beside[apart] + c[u] * much, seen.p);
                }
            }
        }
    }

    /** The states of a sector, or the rounds of a turn of it, each by a state that stands for it. */
    private static final class Basis {
        private static final int UNSEEN = -2;
        private final int[] heads = new int[WIDEST_SECTOR];
        private final int[] places = new int[STATES];
        private final int[] factors = new int[STATES];
        int width = 0;

        int head(int i) {
            return i >= 0 && i < width ? heads[i] : 0;
        }

        void gather(Rule rule, int m, int turn) {
            width = 0;
            int step = turn > 0 ? raised(rule.leastRoot(), turn, rule.p) : 1;
            for (int s = 0; s < rule.states(); s++) {
                places[s] = UNSEEN;
            }
            for (int s = 0; s < rule.states(); s++) {
                if (Integer.bitCount(s) == m && places[s] == UNSEEN) {
                    if (turn == NONE) {
                        place(s, takeIn(s), 1);
                    } else {
                        gatherRound(rule, s, turn, step);
                    }
                }
            }
        }

        private void gatherRound(Rule rule, int head, int turn, int step) {
            int unlike = 1;
            for (int s = rule.shifted(head); s != head && unlike < rule.n; s = rule.shifted(s)) {
                unlike++;
            }
            int at = left(turn * unlike, rule.n) == 0 ? takeIn(head) : NONE;
            int s = head;
            int factor = 1;
            for (int i = 0; i < unlike; i++) {
                place(s, at, factor);
                s = rule.shifted(s);
                factor = left(factor * step, rule.p);
            }
        }

        private int takeIn(int head) {
            if (width >= heads.length) {
                return NONE;
            }
            heads[width] = head;
            width++;
            return width - 1;
        }

        private void place(int s, int at, int factor) {
            places[s] = at;
            factors[s] = factor;
        }

        /** THE SUM among these, row by row; a state stands for its round by the factor that its shifts make. */
        void fillSum(Rule rule, int[] matrix) {
            for (int i = 0; i < width * width && i < matrix.length; i++) {
                matrix[i] = 0;
            }
            for (int i = 0; i < width; i++) {
                for (int k = 0; k < rule.bonds(); k++) {
                    int two = rule.bond(k);
                    boolean alike = Rule.areAlike(heads[i], two);
                    int s = alike ? heads[i] : heads[i] ^ two;
                    if (places[s] >= 0) {
                        int cell = i * width + places[s];
                        matrix[cell] = left(matrix[cell] + (alike ? rule.d : factors[s]), rule.p);
                    }
                }
            }
        }
    }

    /** Two tables in one sector, and whether they commute. */
    private static final class Products {
        private final Basis basis;
        final int[] ahead = new int[WIDEST_SECTOR * WIDEST_SECTOR];
        final int[] behind = new int[WIDEST_SECTOR * WIDEST_SECTOR];

        Products(Basis basis) {
            this.basis = basis;
        }

        void fillTable(Exchange exchange, int u, int[] matrix) {
            int width = basis.width;
            for (int i = 0; i < width; i++) {
                for (int k = 0; k < width; k++) {
                    matrix[i * width + k] = exchange.tableBetween(u, basis.head(i), basis.head(k));
                }
            }
        }

        boolean agree(int p) {
            int width = basis.width;
            for (int i = 0; i < width; i++) {
                for (int k = 0; k < width; k++) {
                    int differ = 0;
                    for (int z = 0; z < width; z++) {
                        differ += ahead[i * width + z] * behind[z * width + k];
                        differ -= behind[i * width + z] * ahead[z * width + k];
                    }
                    if (left(differ, p) != 0) {
                        return false;
                    }
                }
            }
            return true;
        }
    }

    /** The polynomial of THE SUM in a sector or a turn of it, and what it tells. */
    private static final class Spectrum {
        private static final int ROW = WIDEST_SECTOR + 1;
        private final Basis basis;
        private final Rule seen = new Rule();
        private int seenCount = NONE;
        private int seenTurn = NONE;
        private final int[] matrix = new int[WIDEST_SECTOR * WIDEST_SECTOR];
        private final int[] steps = new int[ROW * ROW];
        private final int[] rest = new int[ROW];
        private final int[] traces = new int[POWERS];
        final int[] terms = new int[ROW];
        int degree = 0;

        Spectrum(Basis basis) {
            this.basis = basis;
        }

        void look(Rule rule, int m, int turn) {
            if (m == seenCount && turn == seenTurn && seen.isLike(rule)) {
                return;
            }
            seenCount = m;
            seenTurn = turn;
            seen.copyFrom(rule);
            basis.gather(rule, m, turn);
            basis.fillSum(rule, matrix);
            degree = basis.width;
            flatten();
            findTerms();
        }

        /** Makes all below the places next to the diagonal 0; the polynomial stays as it is. */
        private void flatten() {
            for (int k = 1; k + 1 < degree; k++) {
                int pivot = pivotFor(k);
                if (pivot != NONE) {
                    swapBoth(k, pivot);
                    for (int i = k + 1; i < degree; i++) {
                        int times = over(matrix[i * degree + k - 1], matrix[k * degree + k - 1], seen.p);
                        if (times != 0) {
                            takeRowOff(k, i, times);
                        }
                    }
                }
            }
        }

        private int pivotFor(int k) {
            for (int i = k; i < degree; i++) {
                if (matrix[i * degree + k - 1] != 0) {
                    return i;
                }
            }
            return NONE;
        }

        private void swapBoth(int k, int i) {
            if (i == k) {
                return;
            }
            for (int z = 0; z < degree; z++) {
                swapCells(k * degree + z, i * degree + z);
            }
            for (int z = 0; z < degree; z++) {
                swapCells(z * degree + k, z * degree + i);
            }
        }

        private void swapCells(int one, int other) {
            int held = matrix[one];
            matrix[one] = matrix[other];
            matrix[other] = held;
        }

        private void takeRowOff(int k, int i, int times) {
            for (int z = k - 1; z < degree; z++) {
                matrix[i * degree + z] = left(matrix[i * degree + z] - times * matrix[k * degree + z], seen.p);
            }
            for (int z = 0; z < degree; z++) {
                matrix[z * degree + k] = left(matrix[z * degree + k] + times * matrix[z * degree + i], seen.p);
            }
        }

        /** Row k of the steps is the polynomial of the first k rows and columns. */
        private void findTerms() {
            clear(steps);
            steps[0] = 1;
            for (int k = 0; k < degree; k++) {
                for (int z = 0; z <= k; z++) {
                    steps[(k + 1) * ROW + z + 1] = steps[k * ROW + z];
                }
                int below = 1;
                for (int i = k; i >= 0 && below != 0; i--) {
                    takeStepOff(k + 1, i, left(matrix[i * degree + k] * below, seen.p));
                    below = i > 0 ? left(below * matrix[i * degree + i - 1], seen.p) : 0;
                }
            }
            System.arraycopy(steps, degree * ROW, terms, 0, degree + 1);
        }

        private void takeStepOff(int k, int i, int times) {
            if (times != 0) {
                for (int z = 0; z <= i; z++) {
                    steps[k * ROW + z] = left(steps[k * ROW + z] - times * steps[i * ROW + z], seen.p);
                }
            }
        }

        /** By Newton's sums, which need no division and so hold by any prime. */
        int traceOf(int j) {
            traces[0] = left(degree, seen.p);
            for (int k = 1; k <= j && k < POWERS; k++) {
                int all = k <= degree ? k * terms[degree - k] : 0;
                for (int i = 1; i < k && i <= degree; i++) {
                    all += terms[degree - i] * traces[k - i];
                }
                traces[k] = left(-all, seen.p);
            }
            return j >= 0 && j < POWERS ? traces[j] : NONE;
        }

        int valueAt(int x) {
            int all = 0;
            for (int i = degree; i >= 0; i--) {
                all = left(all * x + terms[i], seen.p);
            }
            return all;
        }

        int howManyOwn() {
            int many = 0;
            for (int x = 0; x < seen.p; x++) {
                if (valueAt(x) == 0) {
                    many++;
                }
            }
            return many;
        }

        int ownAt(int i) {
            int ahead = i;
            for (int x = 0; x < seen.p; x++) {
                if (valueAt(x) == 0) {
                    if (ahead == 0) {
                        return x;
                    }
                    ahead--;
                }
            }
            return NONE;
        }

        int howOften(int x) {
            System.arraycopy(terms, 0, rest, 0, degree + 1);
            int times = 0;
            while (times < degree && dividesRest(x, times)) {
                times++;
            }
            return times;
        }

        /** Divides by (z less x) in place: what is left over comes to place `low`, the quotient stands above it. */
        private boolean dividesRest(int x, int low) {
            for (int i = degree - 1; i >= low; i--) {
                rest[i] = left(rest[i] + x * rest[i + 1], seen.p);
            }
            return rest[low] == 0;
        }
    }

    /**
     * The paired polynomials. Q(z - ETA) leaves, by Q, what doesn't know Q's last coefficient, so all Q of one
     * row (alike but for that coefficient) share what is to be divided, and T is (z + ETA)^n + z^n and the quotient.
     */
    private static final class Pairs {
        private static final int ROOM = MOST_LETTERS + MOST_PAIRED + 2;
        private final Rule seen = new Rule();
        private boolean counted = false;
        private final int[] rowCounts = new int[MOST_PRIME];
        private final int[] base = new int[MOST_LETTERS + 1];
        private final int[] shared = new int[ROOM];
        private final int[] quotient = new int[ROOM];
        final int[] q = new int[MOST_PAIRED + 1];
        final int[] t = new int[MOST_LETTERS + 1];

        int howMany(Rule rule, int m) {
            countRows(rule, m);
            int many = 0;
            for (int row = 0; row < rowsFor(m); row++) {
                many += countAt(row, m);
            }
            return many;
        }

        boolean find(Rule rule, int m, int i) {
            countRows(rule, m);
            int ahead = i;
            for (int row = 0; row < rowsFor(m); row++) {
                int here = countAt(row, m);
                if (ahead < here) {
                    return pick(row, m, ahead);
                }
                ahead -= here;
            }
            return false;
        }

        int energy(Rule rule) {
            return t[0] == 0 ? NONE : over(rule.eta * t[1], t[0], rule.p);
        }

        int move(Rule rule) {
            return t[0] == 0 ? NONE : over(t[0], raised(rule.eta, rule.n, rule.p), rule.p);
        }

        private int rowsFor(int m) {
            return m == 2 ? Math.min(seen.p, MOST_PRIME) : 1;
        }

        private int lastsFor(int m) {
            return m == 0 ? 1 : seen.p;
        }

        /** Only for m 2 are there so many that their counts are kept. */
        private void countRows(Rule rule, int m) {
            if (!seen.isLike(rule)) {
                counted = false;
                seen.copyFrom(rule);
            }
            fillBase();
            if (m == 2 && !counted) {
                for (int row = 0; row < rowsFor(m); row++) {
                    rowCounts[row] = countRow(row, m);
                }
                counted = true;
            }
        }

        private int countAt(int row, int m) {
            return m == 2 && row < rowCounts.length ? rowCounts[row] : countRow(row, m);
        }

        private int countRow(int row, int m) {
            openRow(row, m);
            int many = 0;
            for (int last = 0; last < lastsFor(m); last++) {
                if (divides(row, last, m)) {
                    many++;
                }
            }
            return many;
        }

        private boolean pick(int row, int m, int i) {
            openRow(row, m);
            int ahead = i;
            for (int last = 0; last < lastsFor(m); last++) {
                if (divides(row, last, m)) {
                    if (ahead == 0) {
                        tell(row, last, m);
                        return true;
                    }
                    ahead--;
                }
            }
            return false;
        }

        private void tell(int row, int last, int m) {
            q[1] = row;
            q[0] = last;
            q[m] = 1;
            for (int j = 0; j <= seen.n; j++) {
                t[j] = left(base[j] + (j == seen.n ? 1 : 0) + quotient[j + m], seen.p);
            }
        }

        /** (z + ETA) to the n. */
        private void fillBase() {
            clear(base);
            base[0] = 1;
            for (int i = 0; i < seen.n; i++) {
                for (int j = i + 1; j > 0; j--) {
                    base[j] = left(base[j] * seen.eta + base[j - 1], seen.p);
                }
                base[0] = left(base[0] * seen.eta, seen.p);
            }
        }

        /** By Q, Q(z + h) leaves h Q' and, for m 2, h h: with h ETA beside z to the n, with h -ETA beside the base. */
        private void openRow(int row, int m) {
            int constant = left(seen.eta * (m == 2 ? row : m), seen.p);
            int slope = m == 2 ? left(2 * seen.eta, seen.p) : 0;
            int square = m == 2 ? left(seen.eta * seen.eta, seen.p) : 0;
            clear(shared);
            clear(quotient);
            for (int j = 0; j <= seen.n; j++) {
                shared[j] += base[j] * (square - constant);
                shared[j + 1] -= base[j] * slope;
            }
            shared[seen.n] += square + constant;
            shared[seen.n + 1] += slope;
            for (int j = 0; j <= seen.n + 1; j++) {
                shared[j] = left(shared[j], seen.p);
            }
        }

        /** The quotient comes to its place plus m; Q divides if nothing comes to the places below m. */
        private boolean divides(int row, int last, int m) {
            int near = m == 2 ? row : m == 1 ? last : 0;
            int far = m == 2 ? last : 0;
            int above = 0;
            int farAbove = 0;
            for (int j = seen.n + 1; j >= 0; j--) {
                int here = left(shared[j] - near * above - far * farAbove, seen.p);
                if (j < m && here != 0) {
                    return false;
                }
                quotient[j] = here;
                farAbove = above;
                above = here;
            }
            return true;
        }
    }
}
