/**
 * Every sentence of 'Terms' III and IV, and of promises 16 to 23, that names a bound: the last input that is allowed,
 * the first that isn't, on both sides, and that a refused call has changed nothing.
 */
public final class EdgesOfSectorsTest {
    private static final Due DUE = new Due("EdgesOfSectorsTest");
    private static final int NONE = SolvedChains.NONE;
    private static final int LEAST = Integer.MIN_VALUE;
    private static final int MOST = Integer.MAX_VALUE;
    private static final int[] PRIMES = {5, 7, 11, 13, 17, 19, 23, 29, 31, 37, 41, 43, 47, 53, 59, 61, 67, 71, 73, 79,
        83, 89, 97};

    public static void main(String[] args) {
        sizes();
        turns();
        turnsWithoutRoot();
        sizesOfOthers();
        traces();
        tracesOfOthers();
        polynomials();
        polynomialsOfTurns();
        polynomialsOfOthers();
        ownNumbers();
        sectorsWithoutOwnNumbers();
        ownOfOthers();
        howOften();
        oftenOfOthers();
        roots();
        means();
        meansOfOthers();
        pairsOfNone();
        pairsOfOne();
        pairsOfTwo();
        pairsThatAreNone();
        energies();
        placesOfPairs();
        pairsOfOthers();
        DUE.end();
    }

    private static void is(String call, long got, long want) {
        DUE.is(call, got, want);
    }

    private static int choose(int n, int m) {
        return m < 0 || m > n ? 0 : m == 0 ? 1 : choose(n - 1, m - 1) * n / m;
    }

    private static void sizes() {
        DUE.sentence("III: SECTOR of a COUNT m: all STATES of it. SIZE: how many");
        for (int n = 2; n <= 7; n++) {
            for (int m = 0; m <= n; m++) {
                is("size(" + m + ") of " + n, Due.made(n, true, 13).size(m, NONE), choose(n, m));
                is("size(" + m + ") of open " + n, Due.made(n, false, 13).size(m, NONE), choose(n, m));
            }
        }
        DUE.sentence("III: (a count, not by P; SIZE likewise)");
        is("35 by 5", Due.made(7, true, 5).size(3, NONE), 35);
        is("35 by 7", Due.made(7, true, 7).size(4, NONE), 35);
        is("5 by 5", Due.made(5, true, 5).size(1, NONE), 5);
        is("20 by 7", Due.made(6, true, 7).size(3, NONE), 20);
    }

    private static void turns(int n, int p, int m, int... due) {
        for (int ring = 0; ring < 2; ring++) {
            SolvedChains x = Due.made(n, ring == 1, p);
            for (int k = 0; k < due.length; k++) {
                is("size(" + m + ", " + k + ") of " + n + " by " + p, x.size(m, k), due[k]);
            }
        }
    }

    private static void turns() {
        DUE.sentence("III: SIZE of a TURN: how many rounds of r have k r a multiple of n");
        turns(2, 5, 0, 1, 0);
        turns(2, 5, 1, 1, 1);
        turns(2, 97, 2, 1, 0);
        turns(3, 7, 1, 1, 1, 1);
        turns(3, 7, 3, 1, 0, 0);
        turns(4, 5, 2, 2, 1, 2, 1);
        turns(4, 13, 4, 1, 0, 0, 0);
        turns(5, 11, 2, 2, 2, 2, 2, 2);
        turns(6, 7, 2, 3, 2, 3, 2, 3, 2);
        turns(6, 7, 3, 4, 3, 3, 4, 3, 3);
        turns(6, 7, 0, 1, 0, 0, 0, 0, 0);
        turns(6, 7, 6, 1, 0, 0, 0, 0, 0);
        turns(7, 29, 3, 5, 5, 5, 5, 5, 5, 5);
        turns(7, 29, 7, 1, 0, 0, 0, 0, 0, 0);
        DUE.sentence("III: TURN k (0 .. n - 1)");
        int[][] rooted = {{2, 5}, {3, 7}, {4, 5}, {5, 11}, {6, 7}, {7, 29}};
        for (int[] w : rooted) {
            SolvedChains x = Due.made(w[0], true, w[1]);
            is("turn 0 of " + w[0], x.size(1, 0), 1);
            is("turn n - 1 of " + w[0], x.size(1, w[0] - 1), 1);
            for (int wrong : new int[] {w[0], -2, w[0] + 1, LEAST, MOST}) {
                is("turn " + wrong + " of " + w[0], x.size(1, wrong), NONE);
                is("turn " + wrong + " of " + w[0], x.poly(1, wrong, 0), NONE);
            }
        }
    }

    private static void turnsWithoutRoot() {
        DUE.sentence("16: NONE for a TURN without ROOT");
        for (int n = 2; n <= 7; n++) {
            for (int p : PRIMES) {
                SolvedChains x = Due.made(n, true, p);
                boolean rooted = (p - 1) % n == 0;
                is("turn 0 of " + n + " by " + p, x.size(0, 0), rooted ? 1 : NONE);
                is("turn n - 1 of " + n + " by " + p, x.size(0, n - 1), rooted ? 0 : NONE);
                is("the SECTOR of " + n + " by " + p, x.size(0, NONE), 1);
                is("poly of turn 0 of " + n + " by " + p, x.poly(0, 0, 1), rooted ? 1 : NONE);
                is("poly of the SECTOR of " + n + " by " + p, x.poly(0, NONE, 1), 1);
            }
        }
        DUE.sentence("III: TURN, if there is a ROOT and n isn't 0 by P");
        for (int n : new int[] {5, 7}) {
            SolvedChains x = Due.made(n, true, n);
            for (int k = 0; k < n; k++) {
                is("turn " + k + " of " + n + " by " + n, x.size(1, k), NONE);
                is("poly of turn " + k + " of " + n + " by " + n, x.poly(1, k, 0), NONE);
            }
            is("no ROOT", x.root(), NONE);
        }
    }

    private static void sizesOfOthers() {
        DUE.sentence("16: NONE for others");
        for (int n = 2; n <= 7; n++) {
            SolvedChains x = Due.made(n, n % 2 == 0, n == 7 ? 29 : n == 5 ? 11 : 13);
            is("size(n) of " + n, x.size(n, NONE), 1);
            is("size(n, 0) of " + n, x.size(n, 0), 1);
            for (int wrong : new int[] {n + 1, -1, -2, LEAST, MOST}) {
                is("size(" + wrong + ") of " + n, x.size(wrong, NONE), NONE);
                is("size(" + wrong + ", 0) of " + n, x.size(wrong, 0), NONE);
            }
        }
        Twin.leavesAll(DUE, "size(8, NONE)", x -> x.size(8, NONE), NONE);
        Twin.leavesAll(DUE, "size(-1, NONE)", x -> x.size(-1, NONE), NONE);
        Twin.leavesAll(DUE, "size(1, 7)", x -> x.size(1, 7), NONE);
        Twin.leavesAll(DUE, "size(1, -2)", x -> x.size(1, -2), NONE);
        Twin.leavesAll(DUE, "size(0, NONE)", x -> x.size(0, NONE), 1);
    }

    private static void traces() {
        DUE.sentence("III: TRACE of a power j (0 .. 99) of THE SUM");
        // With one up of three on a ring and D 1, THE SUM is all ones: own numbers 3, 0, 0.
        SolvedChains x = Due.made(3, true, 97);
        for (int j = 1; j <= 99; j++) {
            is("trace(1, " + j + ")", x.trace(1, j), Due.raised(3, j, 97));
        }
        x = Due.made(2, false, 97);
        x.numbers(1, 5);
        is("own numbers 1, -1, power 98", x.trace(1, 98), 2);
        is("own numbers 1, -1, power 99", x.trace(1, 99), 0);
        is("own number 5, power 99", x.trace(0, 99), Due.raised(5, 99, 97));
        is("own number 5, power 99", x.trace(2, 99), Due.raised(5, 99, 97));
        DUE.sentence("III: of power 0: SIZE, by P");
        for (int n = 2; n <= 7; n++) {
            for (int m = 0; m <= n; m++) {
                for (int p : new int[] {5, 7, 97}) {
                    is("trace(" + m + ", 0) of " + n, Due.made(n, true, p).trace(m, 0), choose(n, m) % p);
                }
            }
        }
        DUE.sentence("III: TRACE where THE SUM is 0: power 0 isn't");
        x = Due.made(2, false, 13);
        x.numbers(1, 0);
        is("power 0", x.trace(0, 0), 1);
        is("power 1", x.trace(0, 1), 0);
        is("power 99", x.trace(0, 99), 0);
    }

    private static void tracesOfOthers() {
        DUE.sentence("17: NONE for others");
        for (int n = 2; n <= 7; n++) {
            SolvedChains x = Due.made(n, n % 2 == 1, 13);
            x.numbers(1, 0);
            is("trace(0, 99)", x.trace(0, 99), 0);
            is("trace(n, 99)", x.trace(n, 99), 0);
            for (int wrong : new int[] {100, -1, 101, LEAST, MOST}) {
                is("trace(0, " + wrong + ")", x.trace(0, wrong), NONE);
                is("trace(n, " + wrong + ")", x.trace(n, wrong), NONE);
            }
            for (int wrong : new int[] {n + 1, -1, LEAST, MOST}) {
                is("trace(" + wrong + ", 0)", x.trace(wrong, 0), NONE);
            }
        }
        Twin.leavesAll(DUE, "trace(1, 100)", x -> x.trace(1, 100), NONE);
        Twin.leavesAll(DUE, "trace(1, -1)", x -> x.trace(1, -1), NONE);
        Twin.leavesAll(DUE, "trace(8, 1)", x -> x.trace(8, 1), NONE);
        Twin.leavesAll(DUE, "trace(0, 0)", x -> x.trace(0, 0), 1);
    }

    private static void polynomials() {
        DUE.sentence("III: POLYNOMIAL: coefficients of z to the 0, 1, .., SIZE (the last is 1)");
        for (int n = 2; n <= 7; n++) {
            for (int ring = 0; ring < 2; ring++) {
                for (int m = 0; m <= n; m++) {
                    SolvedChains x = Due.made(n, ring == 1, 13);
                    int size = choose(n, m);
                    String told = " of SECTOR " + m + " of " + n;
                    is("the last" + told, x.poly(m, NONE, size), 1);
                    is("the one below" + told, x.poly(m, NONE, size - 1), Math.floorMod(-x.trace(m, 1), 13));
                    is("behind the last" + told, x.poly(m, NONE, size + 1), NONE);
                    is("ahead of the first" + told, x.poly(m, NONE, -1), NONE);
                    is("far ahead" + told, x.poly(m, NONE, LEAST), NONE);
                    is("far behind" + told, x.poly(m, NONE, MOST), NONE);
                }
            }
        }
        DUE.sentence("III: the determinant of z less THE SUM");
        SolvedChains x = Due.made(2, true, 13);
        x.numbers(1, 5);
        is("z - 10", x.poly(2, NONE, 0), 3);
        is("z z - 4: z to the 0", x.poly(1, NONE, 0), 9);
        is("z z - 4: z to the 1", x.poly(1, NONE, 1), 0);
        x.chain(3, true);
        // D - 1 along and all ones: D + 2 once, D - 1 twice: (z - 7) (z - 4)^2.
        is("z to the 0", x.poly(2, NONE, 0), Math.floorMod(-7 * 16, 13));
        is("z to the 1", x.poly(2, NONE, 1), (16 + 56) % 13);
        is("z to the 2", x.poly(2, NONE, 2), Math.floorMod(-15, 13));
        x.chain(2, false);
        is("open, z z - 1", x.poly(1, NONE, 0), 12);
        is("open, z - 5", x.poly(0, NONE, 0), 8);
        x = Due.made(5, true, 5);
        // By 5 SHIFT less 1 is nilpotent, so one up of five has 5 = 0 five times: z to the 5.
        for (int i = 0; i < 5; i++) {
            is("z to the 5: " + i, x.poly(1, NONE, i), 0);
        }
    }

    private static void polynomialsOfTurns() {
        DUE.sentence("III: POLYNOMIAL of a TURN on a RING: SIZE + 1 coefficients, the last is 1");
        int[][] rooted = {{2, 5}, {3, 7}, {4, 5}, {5, 11}, {6, 7}, {7, 29}};
        for (int[] w : rooted) {
            for (int m = 0; m <= w[0]; m++) {
                SolvedChains x = Due.made(w[0], true, w[1]);
                for (int k = 0; k < w[0]; k++) {
                    int size = x.size(m, k);
                    String told = " of turn " + k + " of SECTOR " + m + " of " + w[0];
                    is("the last" + told, x.poly(m, k, size), 1);
                    is("behind it" + told, x.poly(m, k, size + 1), NONE);
                    is("ahead" + told, x.poly(m, k, -1), NONE);
                }
            }
        }
        DUE.sentence("III: POLYNOMIAL of a TURN without STATES is 1");
        SolvedChains x = Due.made(6, true, 7);
        for (int k = 1; k < 6; k++) {
            is("size of turn " + k, x.size(0, k), 0);
            is("z to the 0 of turn " + k, x.poly(0, k, 0), 1);
            is("z to the 1 of turn " + k, x.poly(0, k, 1), NONE);
            is("z to the 0 of turn " + k, x.poly(6, k, 0), 1);
        }
        DUE.sentence("III: what SHIFT makes ROOT to the k times");
        // One up: 1 alike for each bond but two, and there SHIFT and what undoes it: n - 2 + w + 1 / w.
        for (int[] w : rooted) {
            int n = w[0];
            int p = w[1];
            SolvedChains y = Due.made(n, true, p);
            for (int k = 0; k < n; k++) {
                int turn = Due.raised(y.root(), k, p);
                int back = Due.raised(y.root(), n - k, p);
                is("turn " + k + " of one up of " + n, y.poly(1, k, 0), Math.floorMod(-(n - 2 + turn + back), p));
            }
        }
    }

    private static void polynomialsOfOthers() {
        DUE.sentence("18: NONE for a TURN of an OPEN chain");
        int[][] rooted = {{2, 5}, {3, 7}, {4, 5}, {5, 11}, {6, 7}, {7, 29}};
        for (int[] w : rooted) {
            SolvedChains x = Due.made(w[0], false, w[1]);
            for (int k = 0; k < w[0]; k++) {
                is("turn " + k + " of open " + w[0], x.poly(1, k, 0), NONE);
                is("turn " + k + " of open " + w[0], x.poly(0, k, 0), NONE);
            }
            is("but it has a SIZE", x.size(1, 0), 1);
            is("and the SECTOR a POLYNOMIAL", x.poly(1, NONE, w[0]), 1);
        }
        DUE.sentence("18: NONE for others, without ROOT");
        for (int n = 2; n <= 7; n++) {
            SolvedChains x = Due.made(n, true, n == 7 ? 29 : n == 5 ? 11 : 13);
            for (int wrong : new int[] {n + 1, -1, LEAST, MOST}) {
                is("poly(" + wrong + ", NONE, 0)", x.poly(wrong, NONE, 0), NONE);
                is("poly(" + wrong + ", 0, 0)", x.poly(wrong, 0, 0), NONE);
            }
            for (int wrong : new int[] {n, -2, LEAST, MOST}) {
                is("poly(1, " + wrong + ", 0)", x.poly(1, wrong, 0), NONE);
            }
        }
        SolvedChains x = Due.made(3, true, 5);
        for (int k = 0; k < 3; k++) {
            is("three by 5, turn " + k, x.poly(1, k, 0), NONE);
        }
        Twin.leavesAll(DUE, "poly(8, NONE, 0)", y -> y.poly(8, NONE, 0), NONE);
        Twin.leavesAll(DUE, "poly(1, NONE, 36)", y -> y.poly(1, NONE, 36), NONE);
        Twin.leavesAll(DUE, "poly(1, NONE, -1)", y -> y.poly(1, NONE, -1), NONE);
        Twin.leavesAll(DUE, "poly(1, 7, 0)", y -> y.poly(1, 7, 0), NONE);
        Twin.leavesAll(DUE, "poly(0, NONE, 1)", y -> y.poly(0, NONE, 1), 1);
    }

    private static void owns(SolvedChains x, int m, int... due) {
        is("how many of " + m, x.own(m, NONE), due.length);
        for (int i = 0; i < due.length; i++) {
            is("own(" + m + ", " + i + ")", x.own(m, i), due[i]);
        }
        is("behind the last of " + m, x.own(m, due.length), NONE);
        is("far behind of " + m, x.own(m, MOST), NONE);
        is("own(" + m + ", -2)", x.own(m, -2), NONE);
        is("far ahead of " + m, x.own(m, LEAST), NONE);
    }

    private static void ownNumbers() {
        DUE.sentence("19: OWN NUMBERS of a SECTOR: how many unlike ones (i NONE), the i-th, from 0 on");
        SolvedChains x = Due.made(3, true, 13);
        owns(x, 0, 3);
        owns(x, 1, 0, 3);
        owns(x, 2, 0, 3);
        owns(x, 3, 3);
        x.numbers(1, 12);
        // D - 1 and D + 2.
        owns(x, 1, 1, 11);
        x = Due.made(2, true, 5);
        owns(x, 1, 2, 3);
        x.numbers(1, 2);
        owns(x, 0, 4);
        x.numbers(1, 0);
        owns(x, 0, 0);
        DUE.sentence("III: how many unlike ones: one that comes often counts once");
        owns(Due.made(5, true, 5), 1, 0);
    }

    /** One up of four with open ends and D 0: z^4 - 3 z^2 + 1, of z z - z - 1 and z z + z - 1; 5 is no square by 7. */
    private static SolvedChains withoutOwn() {
        SolvedChains x = Due.made(4, false, 7);
        x.numbers(1, 0);
        return x;
    }

    private static void sectorsWithoutOwnNumbers() {
        DUE.sentence("19: a SECTOR without OWN NUMBERS has 0 of them");
        SolvedChains x = withoutOwn();
        is("z to the 0", x.poly(1, NONE, 0), 1);
        is("z to the 2", x.poly(1, NONE, 2), 4);
        owns(x, 1);
        owns(x, 3);
        for (int number = 0; number < 7; number++) {
            is("often(1, " + number + ")", x.often(1, number), 0);
        }
        is("often(1, 7)", x.often(1, 7), NONE);
        x.prime(11);
        // 5 is 4 times 4 by 11: (1 + 4) / 2, (1 - 4) / 2 and those less.
        owns(x, 1, 3, 4, 7, 8);
    }

    private static void ownOfOthers() {
        DUE.sentence("19: NONE for others");
        for (int n = 2; n <= 7; n++) {
            SolvedChains x = Due.made(n, n % 2 == 1, 13);
            is("own(0, NONE)", x.own(0, NONE), 1);
            is("own(n, NONE)", x.own(n, NONE), 1);
            for (int wrong : new int[] {n + 1, -1, -2, LEAST, MOST}) {
                is("own(" + wrong + ", NONE)", x.own(wrong, NONE), NONE);
                is("own(" + wrong + ", 0)", x.own(wrong, 0), NONE);
            }
        }
        Twin.leavesAll(DUE, "own(8, NONE)", x -> x.own(8, NONE), NONE);
        Twin.leavesAll(DUE, "own(1, 97)", x -> x.own(1, 97), NONE);
        Twin.leavesAll(DUE, "own(1, -2)", x -> x.own(1, -2), NONE);
        Twin.leavesAll(DUE, "own(0, NONE)", x -> x.own(0, NONE), 1);
    }

    private static void howOften() {
        DUE.sentence("20: How often a NUMBER is an OWN one of a SECTOR (0: it is none)");
        SolvedChains x = Due.made(3, true, 13);
        int[] due = {2, 0, 0, 1, 0, 0, 0, 0, 0, 0, 0, 0, 0};
        for (int number = 0; number < 13; number++) {
            is("often(1, " + number + ")", x.often(1, number), due[number]);
            is("often(0, " + number + ")", x.often(0, number), number == 3 ? 1 : 0);
        }
        DUE.sentence("III: how often: by how many (z less it) it can be divided");
        x = Due.made(5, true, 5);
        is("five times", x.often(1, 0), 5);
        is("no other", x.often(1, 1), 0);
        is("no other", x.often(1, 4), 0);
        x = Due.made(7, true, 7);
        is("seven times", x.often(1, 0), 7);
        is("seven times", x.often(6, 0), 7);
        is("once", x.often(7, 0), 1);
        x = Due.made(2, false, 5);
        is("1 once", x.often(1, 1), 1);
        is("P - 1 once", x.often(1, 4), 1);
        is("0 never", x.often(1, 0), 0);
    }

    private static void oftenOfOthers() {
        DUE.sentence("20: NONE for others");
        for (int n = 2; n <= 7; n++) {
            for (int p : new int[] {5, 97}) {
                SolvedChains x = Due.made(n, true, p);
                x.numbers(1, 0);
                is("often(0, 0)", x.often(0, 0), 1);
                is("often(n, P - 1)", x.often(n, p - 1), 0);
                for (int wrong : new int[] {p, -1, p + 1, LEAST, MOST}) {
                    is("often(0, " + wrong + ")", x.often(0, wrong), NONE);
                    is("often(n, " + wrong + ")", x.often(n, wrong), NONE);
                }
                for (int wrong : new int[] {n + 1, -1, LEAST, MOST}) {
                    is("often(" + wrong + ", 0)", x.often(wrong, 0), NONE);
                }
            }
        }
        Twin.leavesAll(DUE, "often(8, 0)", x -> x.often(8, 0), NONE);
        Twin.leavesAll(DUE, "often(1, 97)", x -> x.often(1, 97), NONE);
        Twin.leavesAll(DUE, "often(1, -1)", x -> x.often(1, -1), NONE);
    }

    private static void roots() {
        DUE.sentence("21: ROOT: the least NUMBER of which the n-th power is 1, and no lower one is. NONE: none");
        for (int n = 2; n <= 7; n++) {
            for (int p : PRIMES) {
                int due = NONE;
                for (int x = p - 1; x > 0; x--) {
                    int order = 1;
                    while (Due.raised(x, order, p) != 1) {
                        order++;
                    }
                    due = order == n ? x : due;
                }
                is("a multiple of n below P tells it", due != NONE ? 1 : 0, (p - 1) % n == 0 ? 1 : 0);
                is("root of " + n + " by " + p, Due.made(n, true, p).root(), due);
                is("root of open " + n + " by " + p, Due.made(n, false, p).root(), due);
            }
        }
        DUE.sentence("21: asked, it changes nothing");
        Twin.leaves(DUE, "root of two by 13", Twin::fresh, SolvedChains::root, 12);
        Twin.leaves(DUE, "root of three by 11", Twin::ring, SolvedChains::root, NONE);
        Twin.leaves(DUE, "root of four by 7", Twin::open, SolvedChains::root, NONE);
        Twin.leaves(DUE, "root of two by 97", Twin::full, SolvedChains::root, 96);
    }

    private static void means() {
        DUE.sentence("22: MEAN at a distance r (1 .. n - 1)");
        for (int n = 2; n <= 7; n++) {
            for (int ring = 0; ring < 2; ring++) {
                SolvedChains x = Due.made(n, ring == 1, 97);
                for (int m = 0; m <= n; m++) {
                    for (int r = 1; r < n; r++) {
                        // Each i: the other n - 2 letters have m up, or m - 2 if both of these are.
                        int due = n * (choose(n - 2, m) + choose(n - 2, m - 2));
                        is("mean(" + m + ", " + r + ") of " + n, x.mean(m, r), due);
                    }
                }
            }
        }
        DUE.sentence("III: (a count, not by P)");
        is("105 by 5", Due.made(7, true, 5).mean(3, 1), 105);
        is("105 by 97", Due.made(7, true, 97).mean(4, 6), 105);
        is("5 by 5", Due.made(5, true, 5).mean(0, 4), 5);
    }

    private static void meansOfOthers() {
        DUE.sentence("22: NONE for others");
        for (int n = 2; n <= 7; n++) {
            SolvedChains x = Due.made(n, n % 2 == 0, 13);
            is("mean(0, 1)", x.mean(0, 1), n);
            is("mean(n, n - 1)", x.mean(n, n - 1), n);
            for (int wrong : new int[] {0, n, -1, n + 1, LEAST, MOST}) {
                is("mean(0, " + wrong + ") of " + n, x.mean(0, wrong), NONE);
                is("mean(n, " + wrong + ") of " + n, x.mean(n, wrong), NONE);
            }
            for (int wrong : new int[] {n + 1, -1, LEAST, MOST}) {
                is("mean(" + wrong + ", 1) of " + n, x.mean(wrong, 1), NONE);
            }
        }
        Twin.leavesAll(DUE, "mean(1, 0)", x -> x.mean(1, 0), NONE);
        Twin.leavesAll(DUE, "mean(1, 7)", x -> x.mean(1, 7), NONE);
        Twin.leavesAll(DUE, "mean(8, 1)", x -> x.mean(8, 1), NONE);
    }

    private static void pairsOfNone() {
        DUE.sentence("IV: PAIRS for m 0: Q is 1, T is (z + ETA) to the n and z to the n");
        for (int n = 2; n <= 7; n++) {
            for (int p : new int[] {5, 13, 97}) {
                for (int eta : new int[] {1, 3, p - 1}) {
                    SolvedChains x = Due.made(n, true, p);
                    x.numbers(eta, 0);
                    String told = " of " + n + " by " + p + ", ETA " + eta;
                    is("how many" + told, x.pair(0, NONE, 0), 1);
                    is("Q" + told, x.pair(0, 0, 0), 1);
                    for (int j = 0; j <= n; j++) {
                        int due = choose(n, j) * Due.raised(eta, n - j, p) + (j == n ? 1 : 0);
                        is("T " + j + told, x.pair(0, 0, 10 + j), due % p);
                    }
                    is("behind T" + told, x.pair(0, 0, 11 + n), NONE);
                    is("ENERGY" + told, x.pair(0, 0, 30), n % p);
                    is("MOVE" + told, x.pair(0, 0, 31), 1);
                    is("TRUE" + told, x.pair(0, 0, 32), 1);
                    is("no second" + told, x.pair(0, 1, 0), NONE);
                }
            }
        }
    }

    private static int gcd(int a, int b) {
        return b == 0 ? a : gcd(b, a % b);
    }

    /** z + q is one if w = 1 - ETA / q has the n-th power 1 and isn't 1; then w is MOVE, n - 2 + w + 1 / w ENERGY. */
    private static void pairsOfOne() {
        DUE.sentence("IV: PAIRS for m 1, in order; their ENERGY, MOVE, TRUE");
        for (int n = 2; n <= 7; n++) {
            for (int p : new int[] {5, 7, 11, 13, 29, 97}) {
                for (int eta : new int[] {1, 2, p - 1}) {
                    SolvedChains x = Due.made(n, n % 2 == 0, p);
                    x.numbers(eta, 3);
                    pairsOfOne(x, n, p, eta);
                }
            }
        }
    }

    private static void pairsOfOne(SolvedChains x, int n, int p, int eta) {
        String told = " of " + n + " by " + p + ", ETA " + eta;
        int many = 0;
        for (int q = 1; q < p; q++) {
            int w = Math.floorMod(1 - eta * Due.raised(q, p - 2, p), p);
            if (Due.raised(w, n, p) == 1) {
                is("Q" + told, x.pair(1, many, 0), q);
                is("z of Q" + told, x.pair(1, many, 1), 1);
                is("behind Q" + told, x.pair(1, many, 2), NONE);
                is("the last of T" + told, x.pair(1, many, 10 + n), 2);
                is("behind T" + told, x.pair(1, many, 11 + n), NONE);
                is("ENERGY" + told, x.pair(1, many, 30), (n - 2 + w + Due.raised(w, p - 2, p)) % p);
                is("MOVE" + told, x.pair(1, many, 31), w);
                is("TRUE" + told, x.pair(1, many, 32), 1);
                many++;
            }
        }
        is("how many" + told, x.pair(1, NONE, 0), many);
        is("by the roots of 1" + told, many, gcd(n, p - 1) - 1);
        is("behind the last" + told, x.pair(1, many, 0), NONE);
        is("behind the last" + told, x.pair(1, many, 30), NONE);
        is("behind the last" + told, x.pair(1, many, 32), NONE);
    }

    private static void pairsOfTwo() {
        DUE.sentence("IV: PAIRS for m 2: in order of the coefficient of z to the m - 1, then lower");
        for (int n = 2; n <= 7; n++) {
            for (int p : new int[] {5, 7, 13, 19}) {
                SolvedChains x = Due.made(n, true, p);
                x.numbers(p - 1, 2);
                int many = x.pair(2, NONE, 0);
                int before = -1;
                for (int i = 0; i < Math.min(many, 40); i++) {
                    int here = x.pair(2, i, 1) * p + x.pair(2, i, 0);
                    DUE.is("in order " + i + " of " + n + " by " + p, here > before, true);
                    is("the last of Q", x.pair(2, i, 2), 1);
                    is("the last of T", x.pair(2, i, 10 + n), 2);
                    before = here;
                }
                is("behind the last", x.pair(2, many, 0), NONE);
                // z (z - 1) is one for ETA -1, whatever n: ENERGY n - 2 (n above 2), MOVE -1.
                int found = 0;
                for (int i = 0; i < Math.min(many, 40) && n > 2; i++) {
                    if (x.pair(2, i, 1) == p - 1 && x.pair(2, i, 0) == 0) {
                        found++;
                        is("ENERGY of z (z - 1)", x.pair(2, i, 30), (n - 2) % p);
                        is("MOVE of z (z - 1)", x.pair(2, i, 31), p - 1);
                    }
                }
                is("z (z - 1) is one of " + n + " by " + p, found, n > 2 ? 1 : 0);
            }
        }
        DUE.sentence("IV: PAIRS for m 2 of two LETTERS: one for each coefficient, 0 .. P - 1");
        // 2 ETA z z + 2 ETA c z + .. is to be divided by z z + c z + q: q is (c ETA - ETA ETA) / 2.
        SolvedChains x = Due.made(2, true, 13);
        x.numbers(3, 1);
        is("how many", x.pair(2, NONE, 0), 13);
        for (int c = 0; c < 13; c++) {
            is("z of " + c, x.pair(2, c, 1), c);
            is("last of " + c, x.pair(2, c, 0), Math.floorMod((3 * c - 9) * 7, 13));
        }
        is("no fourteenth", x.pair(2, 13, 0), NONE);
    }

    private static void pairsThatAreNone() {
        DUE.sentence("IV: PAIRS that are none: 0 of them, and the first is NONE");
        int[][] none = {{3, 5}, {5, 5}, {5, 7}, {7, 7}, {7, 13}, {7, 97}};
        for (int[] w : none) {
            SolvedChains x = Due.made(w[0], true, w[1]);
            is("how many of " + w[0] + " by " + w[1], x.pair(1, NONE, 0), 0);
            for (int j : new int[] {0, 1, 2, 10, 10 + w[0], 30, 31, 32}) {
                is("pair(1, 0, " + j + ") of " + w[0] + " by " + w[1], x.pair(1, 0, j), NONE);
            }
        }
    }

    private static void energies() {
        DUE.sentence("IV: TRUE: whether ENERGY is one of the OWN NUMBERS of SECTOR m with D 1 on a RING");
        // z (z + 1) of three letters: ENERGY 1, but two up of three have 0 and 3 alone.
        SolvedChains x = Due.made(3, true, 13);
        is("how many", x.pair(2, NONE, 0), 1);
        is("ENERGY", x.pair(2, 0, 30), 1);
        is("it is none", x.pair(2, 0, 32), 0);
        x.numbers(1, 2);
        is("D 2 has it as an OWN NUMBER", x.often(2, 1), 2);
        is("but D 1 counts", x.pair(2, 0, 32), 0);
        x = Due.made(4, true, 13);
        is("D 1", x.pair(1, 0, 32), 1);
        x.numbers(1, 6);
        is("another D doesn't count", x.pair(1, 0, 32), 1);
        x.chain(4, false);
        is("nor do open ends", x.pair(1, 0, 32), 1);
        is("nor for the number of PAIRS", x.pair(1, NONE, 0), 3);
        is("asking leaves D", x.about(4), 6);
        is("asking leaves the ends", x.about(1), 0);
        is("and the SUM", x.sum(0, 0), 18 % 13);
    }

    private static void placesOfPairs() {
        DUE.sentence("23: j 0 .. m: Q's coefficient; 10 + j (j 0 .. n): T's; 30, 31, 32");
        for (int n = 2; n <= 7; n++) {
            for (int m = 0; m <= 2; m++) {
                SolvedChains x = Due.made(n, true, n == 7 ? 29 : n == 5 ? 11 : 13);
                for (int j = -2; j <= 40; j++) {
                    boolean told = (j >= 0 && j <= m) || (j >= 10 && j <= 10 + n) || (j >= 30 && j <= 32);
                    DUE.is("pair(" + m + ", 0, " + j + ") of " + n, x.pair(m, 0, j) != NONE, told);
                }
                is("Q's last", x.pair(m, 0, m), 1);
                is("T's last", x.pair(m, 0, 10 + n), 2);
                for (int wrong : new int[] {LEAST, MOST, 100, -10}) {
                    is("pair(" + m + ", 0, " + wrong + ")", x.pair(m, 0, wrong), NONE);
                }
            }
        }
    }

    private static void pairsOfOthers() {
        DUE.sentence("IV: m (0 .. 2)");
        for (int n = 2; n <= 7; n++) {
            SolvedChains x = Due.made(n, true, 13);
            is("m 0", x.pair(0, NONE, 0), 1);
            DUE.is("m 2", x.pair(2, NONE, 0) > 0, true);
            for (int wrong : new int[] {3, -1, -2, 4, LEAST, MOST}) {
                is("pair(" + wrong + ", NONE, 0)", x.pair(wrong, NONE, 0), NONE);
                is("pair(" + wrong + ", 0, 0)", x.pair(wrong, 0, 0), NONE);
                is("pair(" + wrong + ", 0, 32)", x.pair(wrong, 0, 32), NONE);
            }
        }
        DUE.sentence("23: how many (i NONE), whatever j; NONE for others");
        SolvedChains x = Due.made(4, true, 13);
        for (int j : new int[] {0, 1, 9, 30, 33, -1, LEAST, MOST}) {
            is("pair(1, NONE, " + j + ")", x.pair(1, NONE, j), 3);
        }
        for (int wrong : new int[] {-2, 3, LEAST, MOST}) {
            is("pair(1, " + wrong + ", 0)", x.pair(1, wrong, 0), NONE);
            is("pair(1, " + wrong + ", 30)", x.pair(1, wrong, 30), NONE);
            is("pair(1, " + wrong + ", 32)", x.pair(1, wrong, 32), NONE);
        }
        Twin.leavesAll(DUE, "pair(3, NONE, 0)", y -> y.pair(3, NONE, 0), NONE);
        Twin.leavesAll(DUE, "pair(0, 1, 0)", y -> y.pair(0, 1, 0), NONE);
        Twin.leavesAll(DUE, "pair(0, 0, 33)", y -> y.pair(0, 0, 33), NONE);
        Twin.leavesAll(DUE, "pair(0, 0, 32)", y -> y.pair(0, 0, 32), 1);
    }
}
