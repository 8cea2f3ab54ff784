/**
 * Every sentence of 'Terms' I, and of promises 1 to 4 and 12, that names a bound: the last input that is allowed, the
 * first that isn't, on both sides, and that a refused call has changed nothing.
 */
public final class EdgesOfNumbersTest {
    private static final Due DUE = new Due("EdgesOfNumbersTest");
    private static final int NONE = SolvedChains.NONE;
    private static final int LEAST = Integer.MIN_VALUE;
    private static final int MOST = Integer.MAX_VALUE;

    public static void main(String[] args) {
        lettersOfANewOne();
        atFirst();
        theFirstImage();
        lettersOfAChain();
        anotherChain();
        whatAChainLeaves();
        primes();
        noPrimes();
        etaAndDByP();
        vectorByP();
        whatAPrimeLeaves();
        rangeOfEta();
        rangeOfD();
        bothOrNone();
        quotients();
        statesAreBits();
        bonds();
        twoLetters();
        theSum();
        sumOfOthers();
        DUE.end();
    }

    private static void is(String call, long got, long want) {
        DUE.is(call, got, want);
    }

    private static void is(String call, boolean got, boolean want) {
        DUE.is(call, got, want);
    }

    private static void lettersOfANewOne() {
        DUE.sentence("1: n LETTERS (2 .. 7; others: the nearest of these)");
        for (int n = 2; n <= 7; n++) {
            is("new " + n, new SolvedChains(n).about(0), n);
        }
        for (int n : new int[] {1, 0, -1, -7, LEAST, LEAST + 1}) {
            is("new " + n, new SolvedChains(n).about(0), 2);
            is("new " + n + " has four states", new SolvedChains(n).at(3), 0);
            is("new " + n + " has no fifth", new SolvedChains(n).at(4), NONE);
        }
        for (int n : new int[] {8, 9, 32, 33, 1000, MOST - 1, MOST}) {
            is("new " + n, new SolvedChains(n).about(0), 7);
            is("new " + n + " has 128 states", new SolvedChains(n).at(127), 0);
            is("new " + n + " has no more", new SolvedChains(n).at(128), NONE);
        }
        DUE.sentence("1: A RING");
        for (int n = 3; n <= 7; n++) {
            is("new " + n, new SolvedChains(n).about(1), 1);
            is("new " + n + ": the last and the first", new SolvedChains(n).sum(1, 1 << (n - 1)), 1);
        }
        for (int n : new int[] {LEAST, 1, 2, 8, MOST}) {
            is("new " + n, new SolvedChains(n).about(1), 1);
        }
    }

    private static void atFirst() {
        SolvedChains x = new SolvedChains(3);
        DUE.sentence("P at first 13");
        is("about(2)", x.about(2), 13);
        is("12 is a NUMBER", x.weight(1, 12), 12);
        is("13 is none", x.weight(1, 13), NONE);
        DUE.sentence("ETA at first 1");
        is("about(3)", x.about(3), 1);
        is("c without a text", x.weight(2, 0), 1);
        DUE.sentence("D at first 1");
        is("about(4)", x.about(4), 1);
        is("three bonds", x.sum(0, 0), 3);
        DUE.sentence("THE TEXT: at first none");
        is("about(6)", x.about(6), NONE);
        is("no TEXTS", x.about(5), 0);
        DUE.sentence("THE VECTOR: at first 0");
        for (int s = 0; s < 8; s++) {
            is("at(" + s + ")", x.at(s), 0);
        }
        is("norm", x.norm(), 0);
        is("nothing to undo", x.about(7), 0);
        is("nothing to redo", x.about(8), 0);
        is("an empty tape", x.about(9), 0);
    }

    private static void theFirstImage() {
        DUE.sentence("1: THE IMAGE is this");
        for (int n = 1; n <= 8; n++) {
            int near = Math.max(2, Math.min(7, n));
            SolvedChains x = new SolvedChains(n);
            is("back at once", x.back(), near);
            x.chain(near == 4 ? 5 : 4, false);
            x.prime(97);
            x.numbers(96, 0);
            x.by(Due.tell(x, "a 5;"));
            x.set(3);
            x.act(2, 0);
            x.act(0, 0);
            x.undo();
            is("back to " + near, x.back(), near);
            int[] due = {near, 1, 13, 1, 1, 0, NONE, 0, 0, 0};
            for (int i = 0; i < due.length; i++) {
                is("about(" + i + ")", x.about(i), due[i]);
            }
            is("the vector is 0", x.norm(), 0);
            is("at(3)", x.at(3), 0);
            is("a without a text", x.weight(0, 12), 0);
        }
    }

    private static void lettersOfAChain() {
        DUE.sentence("2: THE CHAIN is another one: true (n 2 .. 7)");
        for (int n = 2; n <= 7; n++) {
            for (int ring = 0; ring < 2; ring++) {
                SolvedChains x = new SolvedChains(n == 5 ? 3 : 5);
                is("chain(" + n + ")", x.chain(n, ring == 1), true);
                is("about(0)", x.about(0), n);
                is("about(1)", x.about(1), ring);
                is("the last state", x.at((1 << n) - 1), 0);
                is("no more", x.at(1 << n), NONE);
            }
        }
        DUE.sentence("2: False for others");
        for (int n : new int[] {1, 8, 0, -1, -2, 9, 34, LEAST, MOST}) {
            Twin.leavesAll(DUE, "chain(" + n + ", true)", x -> Twin.bit(x.chain(n, true)), 0);
            Twin.leavesAll(DUE, "chain(" + n + ", false)", x -> Twin.bit(x.chain(n, false)), 0);
        }
    }

    private static void anotherChain() {
        int[][] others = {{3, 0}, {4, 1}, {2, 1}, {7, 0}, {3, 1}};
        for (int[] other : others) {
            SolvedChains x = new SolvedChains(3);
            x.set(1);
            for (int i = 0; i < 4; i++) {
                x.act(2, 0);
            }
            x.undo();
            String told = "chain(" + other[0] + ", " + (other[1] == 1) + ")";
            x.chain(other[0], other[1] == 1);
            DUE.sentence("another CHAIN: THE VECTOR is 0");
            for (int s = 0; s < 1 << other[0]; s++) {
                is(told + ": at(" + s + ")", x.at(s), 0);
            }
            is(told + ": norm", x.norm(), 0);
            DUE.sentence("another CHAIN ends what could be undone");
            is(told + ": about(7)", x.about(7), 0);
            is(told + ": undo", x.undo(), NONE);
            is(told + ": about(8)", x.about(8), 0);
            is(told + ": redo", x.redo(), NONE);
            is(told + ": the vector still", x.norm(), 0);
        }
    }

    private static void whatAChainLeaves() {
        DUE.sentence("2: THE CHAIN is another one, all else as it was");
        SolvedChains x = Twin.ring();
        x.chain(6, false);
        int[] due = {6, 0, 11, 4, 9, 3, 2, 0, 0, 13};
        for (int i = 0; i < due.length; i++) {
            is("about(" + i + ")", x.about(i), due[i]);
        }
        is("the fault", x.fault(0), 4);
        is("its place", x.fault(1), 4);
        is("the text's c", x.weight(2, 0), 9);
        is("the image", x.back(), 3);
        is("the image's vector can be undone", x.undo(), 0);
    }

    private static void primes() {
        DUE.sentence("3: P, a prime (5 .. 97): true");
        int[] all = {5, 7, 11, 13, 17, 19, 23, 29, 31, 37, 41, 43, 47, 53, 59, 61, 67, 71, 73, 79, 83, 89, 97};
        for (int p : all) {
            SolvedChains x = new SolvedChains(2);
            is("prime(" + p + ")", x.prime(p), true);
            is("about(2)", x.about(2), p);
            is("the last NUMBER", x.weight(1, p - 1), p - 1);
            is("P is none", x.weight(1, p), NONE);
            is("told again", x.prime(p), true);
        }
    }

    private static void noPrimes() {
        DUE.sentence("3: False for others");
        // Below 5, above 97, squares, products, and what is like a prime by its bits or its sign.
        int[] edges = {4, 3, 2, 98, 101, 103, 6, 9, 25, 35, 49, 77, 91, 95, 96, 1, 0, -1, -5, -13, 13 + 256, LEAST,
            MOST, 65537};
        for (int p : edges) {
            Twin.leavesAll(DUE, "prime(" + p + ")", x -> Twin.bit(x.prime(p)), 0);
        }
        SolvedChains x = new SolvedChains(2);
        for (int p = -1; p <= 128; p++) {
            boolean is = p >= 5 && p <= 97;
            for (int i = 2; i < p; i++) {
                is = is && p % i != 0;
            }
            is("prime(" + p + ")", x.prime(p), is);
        }
    }

    /** P, ETA and D behind telling 97 with these and then another prime. */
    private static void taken(int eta, int d, int p, int dueEta, int dueD) {
        SolvedChains x = Due.made(2, true, 97);
        x.numbers(eta, d);
        x.prime(p);
        String told = "ETA " + eta + ", D " + d + " by " + p;
        is(told + ": P", x.about(2), p);
        is(told + ": ETA", x.about(3), dueEta);
        is(told + ": D", x.about(4), dueD);
        is(told + ": c without a text is ETA", x.weight(2, 0), dueEta);
        is(told + ": two bonds", x.sum(0, 0), 2 * dueD % p);
    }

    private static void etaAndDByP() {
        DUE.sentence("ETA and D are taken by P, if P is told anew");
        taken(12, 12, 13, 12, 12);
        taken(14, 14, 13, 1, 1);
        taken(25, 25, 13, 12, 12);
        taken(96, 95, 5, 1, 0);
        taken(96, 96, 89, 7, 7);
        taken(4, 4, 5, 4, 4);
        taken(6, 7, 5, 1, 2);
        DUE.sentence("ETA 0 is then 1");
        taken(13, 5, 13, 1, 5);
        taken(26, 12, 13, 1, 12);
        taken(95, 1, 5, 1, 1);
        taken(89, 3, 89, 1, 3);
        DUE.sentence("D may be 0 then");
        taken(5, 13, 13, 5, 0);
        taken(13, 13, 13, 1, 0);
        taken(1, 0, 5, 1, 0);
        DUE.sentence("taken by P as they are: a larger P brings nothing back");
        SolvedChains x = Due.made(2, true, 97);
        x.numbers(20, 30);
        x.prime(7);
        x.prime(97);
        is("ETA", x.about(3), 6);
        is("D", x.about(4), 2);
        x.numbers(7, 7);
        x.prime(7);
        x.prime(97);
        is("ETA that was 0", x.about(3), 1);
        is("D that is 0", x.about(4), 0);
        x.numbers(50, 60);
        x.prime(97);
        is("the same P: ETA", x.about(3), 50);
        is("the same P: D", x.about(4), 60);
    }

    /** 97 as P, the vector 2 to the 0, 1, .. 6 at state 0, of which the last two are undone. */
    private static SolvedChains powersOfTwo() {
        SolvedChains x = Due.made(2, true, 97);
        x.set(0);
        for (int i = 0; i < 6; i++) {
            x.act(2, 0);
        }
        x.undo();
        x.undo();
        return x;
    }

    private static void vectorByP() {
        DUE.sentence("P told anew: what is kept is taken by P as it is");
        int[] powers = {1, 2, 4, 8, 16, 32, 64};
        for (int p : new int[] {5, 7, 13, 61, 67}) {
            SolvedChains x = powersOfTwo();
            x.prime(p);
            is("the vector by " + p, x.at(0), 16 % p);
            is("norm by " + p, x.norm(), (16 % p) * (16 % p) % p);
            is("to be undone by " + p, x.about(7), 4);
            is("to be redone by " + p, x.about(8), 2);
            for (int i = 3; i >= 0; i--) {
                is("undo", x.undo(), i);
                is("undone " + i + " by " + p, x.at(0), powers[i] % p);
            }
            for (int i = 1; i <= 6; i++) {
                is("redo", x.redo(), 6 - i);
                is("redone " + i + " by " + p, x.at(0), powers[i] % p);
            }
        }
        DUE.sentence("P told anew: the oldest and the latest of 20 are taken by P too");
        SolvedChains x = Due.made(2, true, 97);
        x.set(0);
        for (int i = 0; i < 26; i++) {
            x.act(2, 0);
        }
        x.prime(5);
        is("the latest, 93 by 5", x.at(0), 3);
        for (int i = 0; i < 20; i++) {
            x.undo();
        }
        is("the oldest, 64 by 5", x.at(0), 4);
        x.prime(97);
        is("the oldest by 5, then by 97", x.at(0), 4);
        for (int i = 0; i < 20; i++) {
            x.redo();
        }
        is("the latest by 5, then by 97", x.at(0), 3);
        DUE.sentence("P told anew: what was taken by a smaller P stays so");
        x = powersOfTwo();
        x.prime(5);
        x.prime(97);
        is("the vector by 5, then by 97", x.at(0), 1);
        x.redo();
        is("redone by 5, then by 97", x.at(0), 2);
        x.undo();
        x.undo();
        is("undone by 5, then by 97", x.at(0), 3);
        DUE.sentence("ETA, D told anew: what is kept is as it is");
        x = powersOfTwo();
        x.numbers(5, 50);
        is("the vector", x.at(0), 16);
        is("to be undone", x.about(7), 4);
        is("to be redone", x.about(8), 2);
        x.redo();
        is("redone as it was kept, not acted anew", x.at(0), 32);
        x.undo();
        x.undo();
        is("undone", x.at(0), 8);
    }

    private static void whatAPrimeLeaves() {
        DUE.sentence("3: P is told anew, all else as it was");
        SolvedChains x = Twin.ring();
        x.prime(97);
        int[] due = {3, 1, 97, 4, 9, 3, 2, 3, 1, 13};
        for (int i = 0; i < due.length; i++) {
            is("about(" + i + ")", x.about(i), due[i]);
        }
        is("the fault", x.fault(0), 4);
        x.back();
        is("the image has its own P", x.about(2), 11);
        is("the image has its own ETA", x.about(3), 3);
        x = powersOfTwo();
        x.image();
        x.prime(5);
        x.back();
        is("the image's vector isn't taken by another P", x.at(0), 16);
        x.redo();
        is("nor what is undone in it", x.at(0), 32);
    }

    private static void rangeOfEta() {
        DUE.sentence("4: ETA (1 .. P - 1)");
        for (int p : new int[] {5, 7, 13, 97}) {
            SolvedChains x = Due.made(2, true, p);
            is("numbers(1, 0)", x.numbers(1, 0), true);
            is("ETA 1", x.about(3), 1);
            is("numbers(P - 1, 0)", x.numbers(p - 1, 0), true);
            is("ETA P - 1", x.about(3), p - 1);
            for (int wrong : new int[] {0, p, -1, 1 - p, p + 1, 2 * p, LEAST, MOST}) {
                is("numbers(" + wrong + ", 1) by " + p, x.numbers(wrong, 1), false);
                is("ETA stays", x.about(3), p - 1);
                is("D stays", x.about(4), 0);
            }
        }
    }

    private static void rangeOfD() {
        DUE.sentence("4: D (0 .. P - 1)");
        for (int p : new int[] {5, 7, 13, 97}) {
            SolvedChains x = Due.made(2, true, p);
            is("numbers(2, P - 1)", x.numbers(2, p - 1), true);
            is("D P - 1", x.about(4), p - 1);
            is("numbers(2, 0)", x.numbers(2, 0), true);
            is("D 0", x.about(4), 0);
            for (int wrong : new int[] {p, -1, p + 1, 2 * p, -p, LEAST, MOST}) {
                is("numbers(1, " + wrong + ") by " + p, x.numbers(1, wrong), false);
                is("ETA stays", x.about(3), 2);
                is("D stays", x.about(4), 0);
            }
        }
    }

    private static void bothOrNone() {
        DUE.sentence("4: False, changing nothing, for others");
        int[][] wrong = {{0, 1}, {1, -1}, {97, 1}, {1, 97}, {-1, 1}, {0, 97}, {-1, -1}, {LEAST, LEAST}, {MOST, MOST},
            {1, LEAST}, {1, MOST}, {LEAST, 0}, {MOST, 0}};
        for (int[] w : wrong) {
            Twin.leavesAll(DUE, "numbers(" + w[0] + ", " + w[1] + ")", x -> Twin.bit(x.numbers(w[0], w[1])), 0);
        }
        // The bounds are those of the P that holds.
        SolvedChains x = Due.made(2, true, 97);
        is("96 by 97", x.numbers(96, 96), true);
        x.prime(5);
        is("5 by 5", x.numbers(5, 0), false);
        is("4 by 5", x.numbers(4, 4), true);
    }

    private static void quotients() {
        DUE.sentence("x / y is that times y which leaves x");
        for (int p : new int[] {5, 7, 13}) {
            SolvedChains x = Due.made(2, true, p);
            x.by(Due.tell(x, "a u/d;"));
            for (int y = 1; y < p; y++) {
                x.numbers(1, y);
                for (int u = 0; u < p; u++) {
                    is(u + " / " + y + " by " + p, x.weight(0, u) * y % p, u);
                }
            }
        }
        for (int y : new int[] {1, 2, 48, 49, 95, 96}) {
            SolvedChains x = Due.made(2, true, 97);
            x.by(Due.tell(x, "a u/d;"));
            x.numbers(1, y);
            for (int u = 0; u < 97; u++) {
                is(u + " / " + y + " by 97", x.weight(0, u) * y % 97, u);
            }
        }
        DUE.sentence("x / y is 0, if y is 0");
        for (int p : new int[] {5, 7, 13, 97}) {
            SolvedChains x = Due.made(2, true, p);
            x.numbers(1, 0);
            x.by(Due.tell(x, "a u/d; b 1/u; c 1+2/(u-u);"));
            for (int u = 0; u < p; u++) {
                is(u + " / 0 by " + p, x.weight(0, u), 0);
            }
            is("1 / 0", x.weight(1, 0), 0);
            is("1 / 1", x.weight(1, 1), 1);
            is("1 / (P - 1)", x.weight(1, p - 1), p - 1);
            is("1 + 2 / 0", x.weight(2, 3), 1);
        }
        SolvedChains x = new SolvedChains(2);
        x.by(Due.tell(x, "a 5/13; b 5/-26+3; c 13/13;"));
        is("a divisor that is 0 by P", x.weight(0, 1), 0);
        is("such a one, and more", x.weight(1, 1), 3);
        is("both 0 by P", x.weight(2, 1), 0);
    }

    private static void statesAreBits() {
        DUE.sentence("a STATE is a number of n bits (bit i: LETTER i)");
        for (int n = 2; n <= 7; n++) {
            SolvedChains x = new SolvedChains(n);
            int last = (1 << n) - 1;
            is("the last state", x.set(last), true);
            is("at the last", x.at(last), 1);
            is("none behind it", x.set(last + 1), false);
            is("none behind it", x.at(last + 1), NONE);
            is("the first", x.set(0), true);
            is("none ahead of it", x.set(-1), false);
            is("none ahead of it", x.at(-1), NONE);
            is("it stays set", x.at(0), 1);
            for (int i = 0; i < n; i++) {
                x.act(1, i);
                is("LETTER " + i + " up", x.at((2 << i) - 1), 1);
            }
        }
    }

    private static void bonds() {
        DUE.sentence("BONDS: of LETTERS i, i + 1, and on a RING of n - 1, 0 as well");
        for (int n = 2; n <= 7; n++) {
            for (int ring = 0; ring < 2; ring++) {
                SolvedChains x = Due.made(n, ring == 1, 97);
                is("bonds of " + n, x.sum(0, 0), n - 1 + ring);
                for (int i = 0; i < n; i++) {
                    for (int k = 0; k < n; k++) {
                        int due = (k == i + 1 || i == k + 1 ? 1 : 0)
                                + (ring == 1 && i + k == n - 1 && (i == 0 || k == 0) ? 1 : 0);
                        if (i != k) {
                            is("bonds of " + i + " and " + k + " of " + n, x.sum(1 << i, 1 << k), due);
                        }
                    }
                }
            }
        }
    }

    private static void twoLetters() {
        DUE.sentence("also if n is 2: two BONDS then");
        SolvedChains x = Due.made(2, true, 97);
        x.numbers(1, 10);
        is("both up", x.sum(3, 3), 20);
        is("both down", x.sum(0, 0), 20);
        is("exchanged twice", x.sum(1, 2), 2);
        is("exchanged twice", x.sum(2, 1), 2);
        is("not the same", x.sum(1, 1), 0);
        is("twice two", x.power(1, 2, 1), 4);
        is("trace", x.trace(1, 2), 8);
        x.chain(2, false);
        is("one bond, open", x.sum(3, 3), 10);
        is("one bond, open", x.sum(1, 2), 1);
    }

    private static void theSum() {
        DUE.sentence("THE SUM: D times it, if both LETTERS are alike, else the STATE with both exchanged");
        SolvedChains x = Due.made(3, true, 97);
        for (int d : new int[] {0, 1, 2, 96}) {
            x.numbers(1, d);
            is("three alike", x.sum(7, 7), 3 * d % 97);
            is("one bond alike", x.sum(3, 3), d);
            is("an exchange has no D", x.sum(3, 5), 1);
            is("an exchange has no D", x.sum(3, 6), 1);
        }
        DUE.sentence("all together; sums are what P leaves of them");
        x = Due.made(7, true, 5);
        is("seven bonds by 5", x.sum(127, 127), 2);
        x.numbers(1, 4);
        is("28 by 5", x.sum(0, 0), 3);
        x = Due.made(5, true, 5);
        is("five bonds by 5", x.sum(0, 0), 0);
        DUE.sentence("SUM(x, y): how much of STATE y comes of STATE x");
        x = Due.made(4, false, 97);
        x.numbers(1, 10);
        is("0011 to itself", x.sum(3, 3), 20);
        is("0011 to 0101", x.sum(3, 5), 1);
        is("0011 to 1010", x.sum(3, 10), 0);
        is("another count", x.sum(3, 7), 0);
        is("0101 to itself", x.sum(5, 5), 0);
    }

    private static void sumOfOthers() {
        DUE.sentence("12: NONE for others");
        for (int n = 2; n <= 7; n++) {
            SolvedChains x = Due.made(n, n % 2 == 0, 13);
            int last = (1 << n) - 1;
            is("the last of both", x.sum(last, last), n % 2 == 0 ? n : n - 1);
            for (int wrong : new int[] {last + 1, -1, -2, LEAST, MOST}) {
                is("sum(" + wrong + ", 0)", x.sum(wrong, 0), NONE);
                is("sum(0, " + wrong + ")", x.sum(0, wrong), NONE);
                is("sum(" + wrong + ", " + wrong + ")", x.sum(wrong, wrong), NONE);
            }
        }
        Twin.leavesAll(DUE, "sum(128, 0)", x -> x.sum(128, 0), NONE);
        Twin.leavesAll(DUE, "sum(0, -1)", x -> x.sum(0, -1), NONE);
        Twin.leavesAll(DUE, "sum(0, 3)", x -> x.sum(0, 3), 0);
    }
}
