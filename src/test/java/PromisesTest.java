/** Each promise by hand: ordinary inputs, the edges that the document names, and wrong inputs. */
public final class PromisesTest {
    private static final Due DUE = new Due("PromisesTest");
    private static final int NONE = SolvedChains.NONE;
    private static final int LEAST = Integer.MIN_VALUE;
    private static final int MOST = Integer.MAX_VALUE;

    public static void main(String[] args) {
        newObject();
        chain();
        prime();
        numbers();
        feedAndEnd();
        text();
        fault();
        by();
        weight();
        equation();
        sum();
        table();
        commute();
        keeps();
        size();
        trace();
        poly();
        own();
        often();
        root();
        mean();
        pair();
        pairOfTwo();
        set();
        act();
        played();
        undoAndRedo();
        keptByPrime();
        atAndNorm();
        power();
        image();
        about();
        DUE.end();
    }

    private static void is(String call, long got, long want) {
        DUE.is(call, got, want);
    }

    private static void is(String call, boolean got, boolean want) {
        DUE.is(call, got, want);
    }

    private static SolvedChains ring(int n) {
        return new SolvedChains(n);
    }

    private static SolvedChains open(int n) {
        SolvedChains x = new SolvedChains(n);
        x.chain(n, false);
        return x;
    }

    private static void abouts(String when, SolvedChains x, int... due) {
        for (int i = 0; i < due.length; i++) {
            is(when + ": about(" + i + ")", x.about(i), due[i]);
        }
    }

    private static void vector(String when, SolvedChains x, int... due) {
        for (int i = 0; i < due.length; i++) {
            is(when + ": at(" + i + ")", x.at(i), due[i]);
        }
        is(when + ": at behind the last", x.at(due.length), NONE);
    }

    private static void newObject() {
        is("NONE", SolvedChains.NONE, -1);
        int[] told = {2, 3, 4, 5, 6, 7, 1, 0, -5, 8, 100, LEAST, MOST};
        int[] due = {2, 3, 4, 5, 6, 7, 2, 2, 2, 7, 7, 2, 7};
        for (int i = 0; i < told.length; i++) {
            SolvedChains x = ring(told[i]);
            abouts("new " + told[i], x, due[i], 1, 13, 1, 1, 0, NONE, 0, 0, 0);
            is("new " + told[i] + ": norm", x.norm(), 0);
            is("new " + told[i] + ": last state", x.at((1 << due[i]) - 1), 0);
            is("new " + told[i] + ": no more states", x.at(1 << due[i]), NONE);
        }
        SolvedChains x = ring(3);
        x.chain(5, false);
        x.prime(7);
        x.numbers(3, 4);
        x.by(Due.tell(x, "a 1;"));
        x.set(3);
        x.act(0, 0);
        is("back to the first image", x.back(), 3);
        abouts("back to the first image", x, 3, 1, 13, 1, 1, 0, NONE, 0, 0, 0);
        vector("back to the first image", x, 0, 0, 0, 0, 0, 0, 0, 0);
    }

    private static void chain() {
        SolvedChains x = ring(3);
        for (int wrong : new int[] {1, 0, -1, 8, 9, LEAST, MOST}) {
            is("chain(" + wrong + ")", x.chain(wrong, false), false);
        }
        abouts("wrong chains", x, 3, 1);
        for (int n = 2; n <= 7; n++) {
            x.set(0);
            x.act(0, 0);
            x.act(0, 0);
            x.undo();
            is("chain(" + n + ", false)", x.chain(n, false), true);
            abouts("open " + n, x, n, 0, 13, 1, 1, 0, NONE, 0, 0);
            is("open " + n + ": at(0)", x.at(0), 0);
            is("open " + n + ": redo", x.redo(), NONE);
            is("chain(" + n + ", true)", x.chain(n, true), true);
            abouts("ring " + n, x, n, 1);
        }
        x.set(5);
        is("a wrong chain", x.chain(8, true), false);
        is("a wrong chain leaves the vector", x.at(5), 1);
        is("the same chain", x.chain(7, true), true);
        is("the same chain told anew", x.at(5), 0);
    }

    private static void prime() {
        int[] primes = {5, 7, 11, 13, 17, 19, 23, 29, 31, 37, 41, 43, 47, 53, 59, 61, 67, 71, 73, 79, 83, 89, 97};
        SolvedChains x = ring(2);
        int next = 0;
        for (int p = -3; p <= 130; p++) {
            boolean due = next < primes.length && primes[next] == p;
            if (due) {
                next++;
            }
            int before = x.about(2);
            is("prime(" + p + ")", x.prime(p), due);
            is("after prime(" + p + ")", x.about(2), due ? p : before);
        }
        is("prime(MIN)", x.prime(LEAST), false);
        is("prime(MAX)", x.prime(MOST), false);
        x.prime(97);
        x.numbers(20, 30);
        x.prime(7);
        abouts("taken by 7", x, 2, 1, 7, 6, 2);
        x.prime(97);
        abouts("97 again", x, 2, 1, 97, 6, 2);
        x.numbers(33, 22);
        x.prime(11);
        abouts("eta 0 is 1", x, 2, 1, 11, 1, 0);
        is("a wrong prime", x.prime(9), false);
        abouts("a wrong prime", x, 2, 1, 11, 1, 0);
    }

    private static void numbers() {
        SolvedChains x = ring(2);
        is("numbers(12, 0)", x.numbers(12, 0), true);
        abouts("numbers(12, 0)", x, 2, 1, 13, 12, 0);
        is("numbers(1, 12)", x.numbers(1, 12), true);
        abouts("numbers(1, 12)", x, 2, 1, 13, 1, 12);
        int[][] wrong = {{0, 5}, {13, 5}, {-1, 5}, {5, 13}, {5, -1}, {LEAST, 0}, {MOST, 0}, {1, LEAST}, {1, MOST}};
        for (int[] w : wrong) {
            is("numbers(" + w[0] + ", " + w[1] + ")", x.numbers(w[0], w[1]), false);
            abouts("wrong numbers", x, 2, 1, 13, 1, 12);
        }
    }

    private static void feedAndEnd() {
        SolvedChains x = ring(2);
        is("end of an empty tape", x.end(0), 0);
        is("end(1) of an empty tape", x.end(1), NONE);
        for (int i = 1; i <= 15; i++) {
            is("feed " + i, x.feed(0x73756d3b, 0x20202020, 0x20202020, 0x20202020, 0x20202020), 20 * i);
        }
        is("feed 16", x.feed(0x73756d3b, 0x20202020, 0x20202020, 0x20202020, 0x20202020), NONE);
        is("about(9)", x.about(9), 300);
        is("end(301)", x.end(301), NONE);
        is("end(-1)", x.end(-1), NONE);
        is("end(MIN)", x.end(LEAST), NONE);
        is("end(MAX)", x.end(MOST), NONE);
        is("about(9) behind wrong ends", x.about(9), 300);
        is("end(300)", x.end(300), 300);
        is("end(281)", x.end(281), 281);
        is("feed at 281", x.feed(0, 0, 0, 0, 0), NONE);
        is("end(280)", x.end(280), 280);
        is("feed at 280", x.feed(0x20202020, 0x20202020, 0x20202020, 0x20202020, 0x20202020), 300);
        is("text of 300 bytes", x.text(), 0);
        is("the tape is empty", x.about(9), 0);
        x.set(1);
        is("played", x.played(0), NONE);
        is("fourteen sums", x.about(7), 14);
        // The highest byte of a comes first, and bytes above 127 are bytes like others.
        is("feed", x.feed(0x666c6970, 0x20313b73, 0x68696674, 0x3b20200a, 0x3bff8000), 20);
        is("end(16)", x.end(16), 16);
        is("text", x.text(), 1);
        x.set(0);
        is("played", x.played(1), NONE);
        vector("flip 1; shift;", x, 0, 1, 0, 0);
        x.feed(0xff202020, 0, 0, 0, 0);
        is("a byte that is none", x.text(), NONE);
        is("its place", x.fault(1), 0);
    }

    private static void text() {
        SolvedChains x = ring(2);
        is("an empty text", x.text(), 0);
        is("an empty text has no fault", x.fault(0), 0);
        is("an empty text has no place", x.fault(1), NONE);
        is("text 1", Due.tell(x, "sum;"), 1);
        Due.feed(x, "sum");
        is("a text with a fault", x.text(), NONE);
        is("the tape is empty", x.about(9), 0);
        is("it is no text", x.about(5), 2);
        is("text 2", Due.tell(x, "shift;\n"), 2);
        is("text 3", Due.tell(x, "flip 1;"), 3);
        Due.feed(x, "sum");
        is("a fifth", x.text(), NONE);
        is("its tape stays", x.about(9), 3);
        is("it was not read", x.fault(0), 0);
        is("four texts", x.about(5), 4);
        x.back();
        is("none is told behind going back", x.about(5), 0);
        is("the tape stays", x.about(9), 3);
        is("it is read now", x.text(), NONE);
        is("its fault", x.fault(0), 1);
        is("its place", x.fault(1), 3);
    }

    private static void fault() {
        SolvedChains x = ring(2);
        for (int what : new int[] {0, 1, 2, -1, LEAST, MOST}) {
            is("fault(" + what + ") ahead of any", x.fault(what), NONE);
        }
        Due.tell(x, "a 1");
        is("fault(0)", x.fault(0), 1);
        is("fault(1)", x.fault(1), 3);
        is("fault(2)", x.fault(2), NONE);
        is("fault(-1)", x.fault(-1), NONE);
        x.image();
        Due.tell(x, "a 1; a 2;");
        is("another fault(0)", x.fault(0), 4);
        is("another fault(1)", x.fault(1), 5);
        x.back();
        is("going back leaves the fault", x.fault(0), 4);
        is("going back leaves its place", x.fault(1), 5);
        Due.tell(x, "a 1;");
        is("fault(0) without", x.fault(0), 0);
        is("fault(1) without", x.fault(1), NONE);
        is("fault(2) without", x.fault(2), NONE);
    }

    private static void by() {
        SolvedChains x = ring(2);
        is("by(0) without texts", x.by(0), false);
        is("by(NONE)", x.by(NONE), true);
        Due.tell(x, "a 3;");
        Due.tell(x, "a 4;");
        is("by(1)", x.by(1), true);
        is("about(6)", x.about(6), 1);
        is("weight", x.weight(0, 5), 4);
        for (int wrong : new int[] {2, 3, 4, -2, LEAST, MOST}) {
            is("by(" + wrong + ")", x.by(wrong), false);
        }
        is("about(6) stays", x.about(6), 1);
        is("by(0)", x.by(0), true);
        is("weight", x.weight(0, 5), 3);
        is("by(NONE)", x.by(NONE), true);
        is("about(6)", x.about(6), NONE);
        is("weight", x.weight(0, 5), 6);
    }

    private static void weight() {
        SolvedChains x = ring(2);
        x.numbers(4, 9);
        int[] without = {x.weight(0, 12), x.weight(1, 12), x.weight(2, 12)};
        is("a without", without[0], 3);
        is("b without", without[1], 12);
        is("c without", without[2], 4);
        int[][] wrong = {{3, 0}, {-1, 0}, {0, 13}, {0, -1}, {LEAST, 1}, {MOST, 1}, {1, LEAST}, {1, MOST}};
        for (int[] w : wrong) {
            is("weight(" + w[0] + ", " + w[1] + ")", x.weight(w[0], w[1]), NONE);
        }
        x.by(Due.tell(x, "c u*u - d/eta; sum; b -(2-u)*-3;"));
        is("a without", x.weight(0, 5), 9);
        is("b", x.weight(1, 5), mod(-(2 - 5) * -3, 13));
        is("c", x.weight(2, 5), mod(25 - 9 * 10, 13));
        x.prime(7);
        is("c by 7, eta 4, d 2", x.weight(2, 3), mod(9 - 2 * 2, 7));
        is("no weight for 7", x.weight(2, 7), NONE);
        x.prime(97);
        expression(x, "10-3-2", 5);
        expression(x, "10-(3-2)", 9);
        expression(x, "2+3*4", 14);
        expression(x, "(2+3)*4", 20);
        expression(x, "64/4/2", 8);
        expression(x, "64/(4/2)", 32);
        expression(x, "64/4*2", 32);
        expression(x, "1/0", 0);
        expression(x, "0/0", 0);
        expression(x, "5/(u-u)+1", 1);
        expression(x, "1/2", 49);
        expression(x, "3/-1", 94);
        expression(x, "--5", 5);
        expression(x, "-5", 92);
        expression(x, "-2*3", 91);
        expression(x, "-2+3", 1);
        expression(x, "4- -3", 7);
        expression(x, "9999", 8);
        expression(x, "0009999", 8);
        expression(x, "97", 0);
        expression(x, "-97", 0);
        expression(x, "98*99", 2);
        expression(x, "((((((((3))))))))", 3);
        expression(x, "--------3", 3);
        expression(x, "-(-(-(-(3)+1)+1)+1)", 2);
        expression(x, "1+(2*(3+(4*(5+(6*(7+(8*(9)))))))) ", 1 + 2 * (3 + 4 * (5 + 6 * (7 + 8 * 9))));
    }

    private static int mod(long x, int p) {
        return (int) (((x % p) + p) % p);
    }

    private static void expression(SolvedChains x, String told, long due) {
        x.image();
        x.by(Due.tell(x, "b " + told + ";"));
        is(told, x.weight(1, 50), mod(due, 97));
        x.back();
    }

    private static void equations(String when, SolvedChains x, int held, int u, int v) {
        is(when + ": equation(0)", x.equation(0), held);
        is(when + ": equation(1)", x.equation(1), u);
        is(when + ": equation(2)", x.equation(2), v);
    }

    private static void equation() {
        SolvedChains x = ring(3);
        for (int p : new int[] {5, 7, 13, 97}) {
            x.prime(p);
            x.numbers(2, 3);
            equations("without a text by " + p, x, p * p, NONE, NONE);
        }
        for (int wrong : new int[] {3, -1, LEAST, MOST}) {
            is("equation(" + wrong + ")", x.equation(wrong), NONE);
        }
        x.prime(5);
        x.image();
        // With b 0 it asks a(v) c(u) a(u-v) = c(v) a(u) c(u-v) alone: v (u - v) = u here, 4 times by 5.
        x.by(Due.tell(x, "a u; b 0; c 1;"));
        equations("a u; b 0; c 1;", x, 4, 0, 1);
        x.by(Due.tell(x, "a u; b 0; c u*u;"));
        equations("a u; b 0; c u*u;", x, 16, 1, 2);
        x.by(Due.tell(x, "a 1; b 1; c 1;"));
        equations("all 1", x, 0, 0, 0);
        x.by(Due.tell(x, "a 1; b 0; c 1;"));
        equations("exchange alone", x, 25, NONE, NONE);
        x.by(NONE);
        equations("without again", x, 25, NONE, NONE);
        x.back();
        x.by(Due.tell(x, "a u; b 1; c 0;"));
        equations("nothing is exchanged", x, 25, NONE, NONE);
        x.back();
        // Told anew under the same number: what was reckoned of the former doesn't hold.
        x.by(Due.tell(x, "a 1; b 1; c 1;"));
        equations("another text 0", x, 0, 0, 0);
        x.back();
        x.prime(97);
        x.by(Due.tell(x, "b u + 1;"));
        is("b u + 1: the first u", x.equation(1), 0);
        is("b u + 1: the first v", x.equation(2), 0);
        x.numbers(96, 0);
        is("b u + 1 by another eta", x.equation(0), new ModelOf("b u + 1;", 97, 96).held());
        x.numbers(1, 0);
        is("b u + 1 by eta 1", x.equation(0), new ModelOf("b u + 1;", 97, 1).held());
    }

    /** How often the plain model says that THE EQUATION holds. */
    private record ModelOf(String text, int p, int eta) {
        int held() {
            Model y = new Model(2);
            y.prime(p);
            y.numbers(eta, 0);
            byte[] bytes = Due.bytes(text);
            int[] w = Due.words(bytes, 0);
            y.feed(w[0], w[1], w[2], w[3], w[4]);
            y.end(bytes.length);
            y.by(y.text());
            return y.equation(0);
        }
    }

    private static void sum() {
        SolvedChains x = ring(4);
        x.numbers(1, 5);
        is("all alike", x.sum(0, 0), 20 % 13);
        is("all alike", x.sum(15, 15), 20 % 13);
        is("one up", x.sum(1, 1), 10);
        is("one up to its right", x.sum(1, 2), 1);
        is("one up to its left, round", x.sum(1, 8), 1);
        is("one up too far", x.sum(1, 4), 0);
        is("two beside", x.sum(3, 3), 10);
        is("two beside to apart", x.sum(3, 5), 1);
        is("two apart", x.sum(5, 5), 0);
        is("another count", x.sum(1, 3), 0);
        int[][] wrong = {{16, 0}, {0, 16}, {-1, 0}, {0, -1}, {LEAST, 0}, {0, MOST}};
        for (int[] w : wrong) {
            is("sum(" + w[0] + ", " + w[1] + ")", x.sum(w[0], w[1]), NONE);
        }
        x.chain(4, false);
        is("open, all alike", x.sum(0, 0), 15 % 13);
        is("open, the last and the first", x.sum(1, 8), 0);
        is("open, the first", x.sum(1, 1), 10);
        is("open, the second", x.sum(2, 2), 5);
        x.chain(2, true);
        is("two bonds of two letters", x.sum(1, 2), 2);
        is("two bonds of two letters", x.sum(3, 3), 10);
        x.chain(2, false);
        is("one bond of two letters", x.sum(1, 2), 1);
        is("one bond of two letters", x.sum(3, 3), 5);
        is("one bond of two letters", x.sum(4, 3), NONE);
    }

    private static void table() {
        SolvedChains x = ring(3);
        x.prime(97);
        x.by(Due.tell(x, "a 2; b 3; c 5;"));
        is("all alike", x.table(0, 0, 0), 8 + 27);
        is("all alike", x.table(7, 7, 7), 8 + 27);
        is("one up stays", x.table(0, 1, 1), 3 * 2 * 2 + 2 * 3 * 3);
        // e down takes LETTER 0, gives it to LETTER 1 and passes LETTER 2.
        is("one up goes on", x.table(0, 1, 2), 5 * 5 * 2);
        // e down takes LETTER 0, passes LETTER 1 unlike and gives it to LETTER 2.
        is("one up goes two on", x.table(0, 1, 4), mod(5 * 3 * 5, 97));
        // e must be up at first: it gives LETTER 0 what is up, and takes LETTER 1.
        is("one up goes back", x.table(0, 2, 1), mod(5 * 5 * 3, 97));
        is("another count", x.table(0, 1, 3), 0);
        is("none to one", x.table(0, 0, 1), 0);
        x.chain(3, false);
        is("an open chain has the ring's table", x.table(0, 1, 2), 5 * 5 * 2);
        int[][] wrong = {{97, 0, 0}, {-1, 0, 0}, {0, 8, 0}, {0, 0, 8}, {0, -1, 0}, {0, 0, -1}, {LEAST, 0, 0},
            {0, MOST, 0}, {0, 0, LEAST}};
        for (int[] w : wrong) {
            is("table(" + w[0] + ", " + w[1] + ", " + w[2] + ")", x.table(w[0], w[1], w[2]), NONE);
        }
        x.by(NONE);
        x.chain(2, true);
        is("a u + 1, b u", x.table(96, 0, 0), 1);
        is("a u + 1, b u", x.table(3, 0, 0), 16 + 9);
        is("a u + 1, b u", x.table(3, 1, 1), 24);
        is("c 1", x.table(3, 1, 2), 1);
        x.numbers(2, 1);
        is("c 2", x.table(3, 1, 2), 4);
    }

    private static void commute() {
        for (int n = 2; n <= 7; n++) {
            SolvedChains x = ring(n);
            is("solved ring " + n, x.commute(3, 5), true);
            is("solved ring " + n, x.commute(12, 0), true);
            x.chain(n, false);
            is("open: the table is a ring's, " + n, x.commute(3, 5), true);
        }
        SolvedChains x = ring(4);
        int[][] wrong = {{13, 0}, {0, 13}, {-1, 0}, {0, -1}, {LEAST, 0}, {0, MOST}};
        for (int[] w : wrong) {
            is("commute(" + w[0] + ", " + w[1] + ")", x.commute(w[0], w[1]), false);
        }
        x.by(Due.tell(x, "a u; b 1; c 1;"));
        is("not solved", x.commute(1, 2), false);
        is("with itself", x.commute(2, 2), true);
        x.by(Due.tell(x, "a 1; b 0; c 1;"));
        is("the shift with itself", x.commute(1, 2), true);
        x.by(Due.tell(x, "a 2+u; b 3*u; c 0;"));
        is("nothing is exchanged", x.commute(5, 7), true);
    }

    private static void keeps() {
        for (int n = 2; n <= 7; n++) {
            SolvedChains x = ring(n);
            is("solved ring " + n, x.keeps(4), true);
            x.numbers(1, 2);
            is("another D, " + n, x.keeps(4), n < 4);
            x.numbers(1, 1);
            x.chain(n, false);
            is("open " + n, x.keeps(4), n == 2);
        }
        SolvedChains x = ring(3);
        for (int wrong : new int[] {13, -1, LEAST, MOST}) {
            is("keeps(" + wrong + ")", x.keeps(wrong), false);
        }
        x.chain(5, true);
        x.numbers(1, 7);
        x.by(Due.tell(x, "a 1; b 0; c 1;"));
        is("the shift keeps any ring's sum", x.keeps(1), true);
        x.chain(5, false);
        is("but not an open one's", x.keeps(1), false);
    }

    private static void size() {
        SolvedChains x = ring(7);
        int[] sizes = {1, 7, 21, 35, 35, 21, 7, 1};
        for (int m = 0; m <= 7; m++) {
            is("size(" + m + ")", x.size(m, NONE), sizes[m]);
            is("no root for 7 by 13", x.size(m, 0), NONE);
        }
        is("size(8)", x.size(8, NONE), NONE);
        is("size(-1)", x.size(-1, NONE), NONE);
        is("size(MIN)", x.size(LEAST, NONE), NONE);
        is("size(MAX)", x.size(MOST, NONE), NONE);
        x.prime(29);
        for (int turn = 0; turn < 7; turn++) {
            is("a turn of 35", x.size(3, turn), 5);
            is("a turn of 1", x.size(7, turn), turn == 0 ? 1 : 0);
        }
        x.chain(4, true);
        x.prime(13);
        int[] turns = {2, 1, 2, 1};
        for (int turn = 0; turn < 4; turn++) {
            is("a turn of 6", x.size(2, turn), turns[turn]);
        }
        x.chain(6, false);
        int[] six = {4, 3, 3, 4, 3, 3};
        for (int turn = 0; turn < 6; turn++) {
            is("an open chain's turn of 20", x.size(3, turn), six[turn]);
        }
        for (int wrong : new int[] {6, -2, LEAST, MOST}) {
            is("size(3, " + wrong + ")", x.size(3, wrong), NONE);
        }
        x.chain(5, true);
        is("no root for 5 by 13", x.size(2, 0), NONE);
        x.prime(5);
        is("no root for 5 by 5", x.size(2, 0), NONE);
        is("but a sector", x.size(2, NONE), 10);
    }

    private static void trace() {
        SolvedChains x = ring(4);
        // Own numbers of one up: 4, 2, 2, 0.
        int[] powers = {4, 8, 24, 80, 288};
        for (int j = 0; j < powers.length; j++) {
            is("trace(1, " + j + ")", x.trace(1, j), powers[j] % 13);
        }
        long two = 1;
        for (int j = 0; j < 99; j++) {
            two = two * 2 % 13;
        }
        is("trace(1, 99)", x.trace(1, 99), (two * two + 2 * two) % 13);
        is("trace(0, 99)", x.trace(0, 99), two * two % 13);
        is("trace(4, 1)", x.trace(4, 1), 4);
        int[][] wrong = {{1, 100}, {1, -1}, {5, 1}, {-1, 1}, {LEAST, 1}, {MOST, 1}, {1, LEAST}, {1, MOST}};
        for (int[] w : wrong) {
            is("trace(" + w[0] + ", " + w[1] + ")", x.trace(w[0], w[1]), NONE);
        }
        x.chain(7, false);
        x.prime(5);
        is("size 35 by 5", x.trace(3, 0), 0);
        is("size 21 by 5", x.trace(2, 0), 1);
        x.numbers(1, 3);
        // Six bonds, of which each is alike in C(5,1) + C(5,3) = 15 states of 35.
        is("trace(3, 1)", x.trace(3, 1), 3 * 6 * 15 % 5);
    }

    private static void terms(String when, SolvedChains x, int m, int turn, int... due) {
        for (int i = 0; i < due.length; i++) {
            is(when + ": z^" + i, x.poly(m, turn, i), due[i]);
        }
        is(when + ": behind the last", x.poly(m, turn, due.length), NONE);
        is(when + ": ahead of the first", x.poly(m, turn, -1), NONE);
    }

    private static void poly() {
        SolvedChains x = ring(4);
        terms("one up", x, 1, NONE, 0, mod(-16, 13), mod(20, 13), mod(-8, 13), 1);
        terms("none up", x, 0, NONE, mod(-4, 13), 1);
        terms("turn 0", x, 1, 0, mod(-4, 13), 1);
        terms("turn 1", x, 1, 1, mod(-2, 13), 1);
        terms("turn 2", x, 1, 2, 0, 1);
        terms("turn 3", x, 1, 3, mod(-2, 13), 1);
        terms("an empty turn", x, 0, 1, 1);
        // Two up: 4, 2, 2, 0 as with one up, and 2, -2 besides: turns 0 and 2 have two each.
        terms("two up, turn 0", x, 2, 0, mod(-8, 13), mod(-2, 13), 1);
        terms("two up, turn 1", x, 2, 1, mod(-2, 13), 1);
        terms("two up, turn 2", x, 2, 2, 0, mod(-2, 13), 1);
        int[][] wrong = {{5, NONE, 0}, {-1, NONE, 0}, {1, 4, 0}, {1, -2, 0}, {1, 0, 2}, {1, NONE, LEAST},
            {1, NONE, MOST}, {LEAST, 0, 0}, {1, LEAST, 0}, {1, MOST, 0}};
        for (int[] w : wrong) {
            is("poly(" + w[0] + ", " + w[1] + ", " + w[2] + ")", x.poly(w[0], w[1], w[2]), NONE);
        }
        x.chain(4, false);
        is("a turn of an open chain", x.poly(1, 0, 0), NONE);
        is("a sector of an open chain", x.poly(1, NONE, 4), 1);
        x.chain(5, true);
        is("without root", x.poly(1, 0, 0), NONE);
        x.chain(3, false);
        x.numbers(1, 5);
        // The places of the one up: 5 1 0 / 1 0 1 / 0 1 5.
        terms("open, three", x, 1, NONE, mod(5 + 5, 13), mod(25 - 1 - 1, 13), mod(-10, 13), 1);
        x.chain(7, true);
        terms("seven, all up", x, 7, NONE, mod(-35, 13), 1);
        is("seven, three up", x.poly(3, NONE, 35), 1);
        is("seven, three up", x.poly(3, NONE, 36), NONE);
        is("seven, three up: less the trace", x.poly(3, NONE, 34), mod(-x.trace(3, 1), 13));
    }

    private static void owns(String when, SolvedChains x, int m, int... due) {
        is(when + ": how many", x.own(m, NONE), due.length);
        for (int i = 0; i < due.length; i++) {
            is(when + ": own " + i, x.own(m, i), due[i]);
        }
        is(when + ": behind the last", x.own(m, due.length), NONE);
    }

    private static void own() {
        SolvedChains x = ring(4);
        owns("none up", x, 0, 4);
        owns("one up", x, 1, 0, 2, 4);
        owns("two up", x, 2, 0, 2, 4, 11);
        int[][] wrong = {{5, 0}, {-1, 0}, {5, NONE}, {1, -2}, {1, LEAST}, {1, MOST}, {LEAST, NONE}, {MOST, NONE}};
        for (int[] w : wrong) {
            is("own(" + w[0] + ", " + w[1] + ")", x.own(w[0], w[1]), NONE);
        }
        x.chain(3, false);
        x.prime(5);
        x.numbers(1, 0);
        // z^3 - 2 z, and 2 is no square by 5.
        owns("no square", x, 1, 0);
        x.prime(7);
        owns("a square", x, 1, 0, 3, 4);
        x.chain(2, true);
        x.numbers(1, 3);
        owns("two bonds", x, 2, 6);
    }

    private static void often() {
        SolvedChains x = ring(4);
        int[] one = {1, 0, 2, 0, 1, 0, 0, 0, 0, 0, 0, 0, 0};
        int[] two = {1, 0, 3, 0, 1, 0, 0, 0, 0, 0, 0, 1, 0};
        for (int i = 0; i < 13; i++) {
            is("often(1, " + i + ")", x.often(1, i), one[i]);
            is("often(2, " + i + ")", x.often(2, i), two[i]);
        }
        int[][] wrong = {{1, 13}, {1, -1}, {5, 0}, {-1, 0}, {LEAST, 0}, {MOST, 0}, {1, LEAST}, {1, MOST}};
        for (int[] w : wrong) {
            is("often(" + w[0] + ", " + w[1] + ")", x.often(w[0], w[1]), NONE);
        }
        x.prime(5);
        is("all of one", x.often(4, 4), 1);
        x.chain(2, false);
        x.numbers(1, 0);
        is("z z - 1", x.often(1, 4), 1);
        is("z z - 1", x.often(1, 1), 1);
        is("z", x.often(0, 0), 1);
    }

    private static void root() {
        int[][] due = {{2, 13, 12}, {2, 5, 4}, {3, 13, 3}, {3, 7, 2}, {3, 5, NONE}, {4, 13, 5}, {4, 5, 2},
            {4, 7, NONE}, {5, 11, 3}, {5, 5, NONE}, {6, 13, 4}, {6, 7, 3}, {7, 29, 7}, {7, 7, NONE}, {7, 71, 20},
            {3, 97, 35}};
        for (int[] w : due) {
            SolvedChains x = ring(w[0]);
            x.prime(w[1]);
            is("root of " + w[0] + " by " + w[1], x.root(), w[2]);
            x.chain(w[0], false);
            is("open root of " + w[0] + " by " + w[1], x.root(), w[2]);
        }
    }

    private static void mean() {
        SolvedChains x = ring(4);
        is("mean(2, 1)", x.mean(2, 1), 8);
        is("mean(2, 2)", x.mean(2, 2), 8);
        is("mean(2, 3)", x.mean(2, 3), 8);
        is("mean(1, 1)", x.mean(1, 1), 8);
        is("mean(0, 3)", x.mean(0, 3), 4);
        is("mean(4, 3)", x.mean(4, 3), 4);
        int[][] wrong = {{2, 0}, {2, 4}, {2, -1}, {5, 1}, {-1, 1}, {LEAST, 1}, {MOST, 1}, {2, LEAST}, {2, MOST}};
        for (int[] w : wrong) {
            is("mean(" + w[0] + ", " + w[1] + ")", x.mean(w[0], w[1]), NONE);
        }
        x.chain(4, false);
        is("round on an open chain too", x.mean(2, 1), 8);
        x.chain(7, true);
        x.prime(5);
        // Seven pairs, each alike in C(5,1) + C(5,3) = 15 of 35 states; not by P.
        for (int r = 1; r < 7; r++) {
            is("mean(3, " + r + ")", x.mean(3, r), 105);
        }
        is("mean(3, 7)", x.mean(3, 7), NONE);
    }

    private static void pairs(String when, SolvedChains x, int m, int i, int[] q, int[] t) {
        for (int j = 0; j < q.length; j++) {
            is(when + ": Q " + j, x.pair(m, i, j), q[j]);
        }
        is(when + ": behind Q", x.pair(m, i, q.length), NONE);
        for (int j = 0; j < t.length; j++) {
            is(when + ": T " + j, x.pair(m, i, 10 + j), t[j]);
        }
        is(when + ": behind T", x.pair(m, i, 10 + t.length), NONE);
    }

    private static void tells(String when, SolvedChains x, int m, int i, int energy, int move, int isTrue) {
        is(when + ": energy", x.pair(m, i, 30), energy);
        is(when + ": move", x.pair(m, i, 31), move);
        is(when + ": true", x.pair(m, i, 32), isTrue);
    }

    private static void pair() {
        SolvedChains x = ring(4);
        is("m 0: how many", x.pair(0, NONE, 0), 1);
        pairs("m 0", x, 0, 0, new int[] {1}, new int[] {1, 4, 6, 4, 2});
        tells("m 0", x, 0, 0, 4, 1, 1);
        is("m 1: how many", x.pair(1, NONE, 0), 3);
        is("m 1: how many, whatever j", x.pair(1, NONE, 50), 3);
        // ((z + 1) / z)^4 = 1 for z 10, 6, 2; T is 2 z^4 + .. with what 4 z^3 + 6 z^2 + 4 z + 1 by z - x leaves.
        pairs("z + 3", x, 1, 0, new int[] {3, 1}, quartic(3));
        pairs("z + 7", x, 1, 1, new int[] {7, 1}, quartic(7));
        pairs("z + 11", x, 1, 2, new int[] {11, 1}, quartic(11));
        tells("z + 3", x, 1, 0, 2, 5, 1);
        tells("z + 7", x, 1, 1, 0, 12, 1);
        tells("z + 11", x, 1, 2, 2, 8, 1);
        int[][] wrong = {{3, NONE, 0}, {-1, NONE, 0}, {LEAST, NONE, 0}, {MOST, NONE, 0}, {1, -2, 0}, {1, 3, 0},
            {1, 3, 30}, {1, 3, 32}, {1, LEAST, 0}, {1, MOST, 0}, {1, 0, -1}, {1, 0, 9}, {1, 0, 15}, {1, 0, 29},
            {1, 0, 33}, {1, 0, LEAST}, {1, 0, MOST}, {0, 1, 0}, {3, 0, 0}};
        for (int[] w : wrong) {
            is("pair(" + w[0] + ", " + w[1] + ", " + w[2] + ")", x.pair(w[0], w[1], w[2]), NONE);
        }
        // D and open ends don't matter to pairs, nor to what is TRUE of them.
        x.chain(4, false);
        x.numbers(1, 6);
        tells("open, D 6", x, 1, 1, 0, 12, 1);
        tells("open, D 6", x, 0, 0, 4, 1, 1);
        x.numbers(2, 6);
        is("ETA 2: how many", x.pair(1, NONE, 0), 3);
        is("ETA 2: twice 7", x.pair(1, 0, 0), 1);
        is("ETA 2: twice 3", x.pair(1, 1, 0), 6);
        is("ETA 2: twice 11", x.pair(1, 2, 0), 9);
        tells("ETA 2: twice 7", x, 1, 0, 0, 12, 1);
        tells("ETA 2: twice 3", x, 1, 1, 2, 5, 1);
        pairs("ETA 2, m 0", x, 0, 0, new int[] {1}, new int[] {16 % 13, 32 % 13, 24 % 13, 8, 2});
        x.chain(3, true);
        x.prime(5);
        is("none", x.pair(1, NONE, 0), 0);
        is("none", x.pair(1, 0, 0), NONE);
    }

    /** (z + 1)^4 + z^4 and the quotient of z^4 - (z + 1)^4 by z + c, by 13. */
    private static int[] quartic(int c) {
        int w2 = -4;
        int w1 = -6 - c * w2;
        int w0 = -4 - c * w1;
        return new int[] {mod(1 + w0, 13), mod(4 + w1, 13), mod(6 + w2, 13), 4, 2};
    }

    private static void pairOfTwo() {
        SolvedChains x = ring(7);
        x.pair(2, NONE, 0);
        x.chain(4, true);
        is("m 2: how many", x.pair(2, NONE, 0), 2);
        // z (z + 1) is one: T is (z + 1)^3 (z - 1) + z^3 (z + 2); the other is z^2 + z + 1/3.
        pairs("z (z + 1)", x, 2, 0, new int[] {0, 1, 1}, new int[] {12, 11, 0, 4, 2});
        tells("z (z + 1)", x, 2, 0, 2, 12, 1);
        pairs("z z + z + 9", x, 2, 1, new int[] {9, 1, 1}, new int[] {1, 11, 0, 4, 2});
        tells("z z + z + 9", x, 2, 1, 11, 1, 1);
        is("behind the last", x.pair(2, 2, 0), NONE);
        x.chain(3, true);
        is("three letters: how many", x.pair(2, NONE, 0), 1);
        is("not true", x.pair(2, 0, 32), 0);
        x.chain(2, true);
        is("two letters: how many", x.pair(2, NONE, 0), 13);
        // -2 z z - 2 c z + 1 - c is to be divided by z z + c z + .., which is then (c - 1) / 2.
        for (int i = 0; i < 13; i++) {
            is("two letters: " + i, x.pair(2, i, 0), mod((i - 1) * 7, 13));
            is("two letters: " + i, x.pair(2, i, 1), i);
        }
        x.numbers(3, 1);
        is("by ETA", x.pair(2, 5, 1), 5);
        is("by ETA", x.pair(2, 5, 0), 3);
        x.chain(6, true);
        x.prime(19);
        x.numbers(1, 1);
        is("six letters by 19", x.pair(2, NONE, 0), 9);
        for (int i = 1; i < 9; i++) {
            int before = x.pair(2, i - 1, 1) * 19 + x.pair(2, i - 1, 0);
            is("in order " + i, before < x.pair(2, i, 1) * 19 + x.pair(2, i, 0), true);
            is("true " + i, x.pair(2, i, 32), 1);
        }
    }

    private static void set() {
        SolvedChains x = ring(3);
        is("set(7)", x.set(7), true);
        vector("set(7)", x, 0, 0, 0, 0, 0, 0, 0, 1);
        x.act(2, 0);
        x.act(2, 0);
        x.undo();
        for (int wrong : new int[] {8, -1, LEAST, MOST}) {
            is("set(" + wrong + ")", x.set(wrong), false);
        }
        is("a wrong set leaves the vector", x.at(7), 3);
        is("a wrong set leaves what can be undone", x.about(7), 1);
        is("a wrong set leaves what can be redone", x.about(8), 1);
        is("set(0)", x.set(0), true);
        vector("set(0)", x, 1, 0, 0, 0, 0, 0, 0, 0);
        is("nothing can be undone", x.undo(), NONE);
        is("nothing can be redone", x.redo(), NONE);
        is("set(0) again", x.set(0), true);
    }

    private static void act() {
        SolvedChains x = ring(3);
        x.set(4);
        is("shift, whatever v", x.act(0, LEAST), true);
        vector("the last comes to 0", x, 0, 1, 0, 0, 0, 0, 0, 0);
        is("shift", x.act(0, 99), true);
        vector("0 comes to 1", x, 0, 0, 1, 0, 0, 0, 0, 0);
        is("a letter turned up", x.act(1, 2), true);
        vector("2 is up", x, 0, 0, 0, 0, 0, 0, 1, 0);
        is("a letter turned down", x.act(1, 1), true);
        vector("1 is down", x, 0, 0, 0, 0, 1, 0, 0, 0);
        x.numbers(1, 5);
        is("the sum, whatever v", x.act(2, MOST), true);
        vector("one bond is alike", x, 0, 1, 1, 0, 5, 0, 0, 0);
        is("the sum", x.act(2, -9), true);
        vector("twice the sum", x, 0, 5 + 1 + 5, 5 + 1 + 5, 0, 25 + 2 - 26, 0, 0, 0);
        int[][] wrong = {{1, 3}, {1, -1}, {1, LEAST}, {3, 13}, {3, -1}, {3, MOST}, {4, 0}, {-1, 0}, {LEAST, 0},
            {MOST, 0}};
        for (int[] w : wrong) {
            is("act(" + w[0] + ", " + w[1] + ")", x.act(w[0], w[1]), false);
        }
        is("wrong acts are none", x.about(7), 6);
        vector("wrong acts do nothing", x, 0, 11, 11, 0, 1, 0, 0, 0);
        x.by(Due.tell(x, "a 2; b 3; c u;"));
        x.set(1);
        is("the table", x.act(3, 5), true);
        vector("the table", x, 0, 30 % 13, 50 % 13, 0, 75 % 13, 0, 0, 0);
        for (int s = 0; s < 8; s++) {
            is("as the table says", x.at(s), x.table(5, 1, s));
        }
        x.chain(3, false);
        x.numbers(1, 5);
        x.set(1);
        x.act(2, 0);
        vector("open ends", x, 0, 5, 1, 0, 0, 0, 0, 0);
        x.act(0, 0);
        vector("the shift is round", x, 0, 0, 5, 0, 1, 0, 0, 0);
    }

    private static void played() {
        SolvedChains x = ring(3);
        for (int wrong : new int[] {0, NONE, -2, 4, LEAST, MOST}) {
            is("played(" + wrong + ")", x.played(wrong), -2);
        }
        is("text", Due.tell(x, "a 2; flip 0; b 3; c 5; shift; sum; flip 2;"), 0);
        x.set(0);
        is("played(0)", x.played(0), NONE);
        // 1 by flip, 2 by shift, then 2 of it each and once 1 and 4, then LETTER 2 turned.
        vector("played(0)", x, 1, 0, 0, 0, 0, 1, 1, 0);
        is("four acts", x.about(7), 4);
        is("played(1) is none yet", x.played(1), -2);
        is("a text that can't be", Due.tell(x, "a 1; shift; flip 3; shift;"), 1);
        x.set(1);
        is("played(1)", x.played(1), 2);
        vector("what was done stays", x, 0, 0, 1, 0, 0, 0, 0, 0);
        is("one act", x.about(7), 1);
        x.chain(4, true);
        x.set(1);
        is("four letters can", x.played(1), NONE);
        is("three acts", x.about(7), 3);
        is("at", x.at(1 << 2 | 1), 1);
        is("a table", Due.tell(x, "table d/2 - eta*3 + 20;"), 2);
        x.chain(3, true);
        x.numbers(4, 6);
        x.by(0);
        x.set(1);
        is("played(2)", x.played(2), NONE);
        for (int s = 0; s < 8; s++) {
            is("the table of the told text", x.at(s), x.table(mod(3 - 12 + 20, 13), 1, s));
        }
        x.undo();
        is("weights alone", Due.tell(x, "a 1; b 1;"), 3);
        is("nothing is played", x.played(3), NONE);
        is("no act came", x.about(8), 1);
        x.chain(2, true);
        x.set(1);
        x.act(0, 0);
        x.undo();
        x.image();
        x.back();
        is("flip 3 behind shift", x.played(1), 2);
        is("an act came", x.about(8), 0);
        manyPlayed();
    }

    private static void manyPlayed() {
        SolvedChains x = ring(2);
        StringBuilder all = new StringBuilder();
        for (int i = 0; i < 30; i++) {
            all.append("sum;");
        }
        Due.tell(x, all.toString());
        x.set(0);
        is("thirty sums", x.played(0), NONE);
        is("twenty are kept", x.about(7), 20);
        is("2 to the 30", x.at(0), 12);
        for (int i = 19; i >= 0; i--) {
            is("undo", x.undo(), i);
        }
        is("2 to the 10", x.at(0), 10);
        is("no more", x.undo(), NONE);
        is("flip first", Due.tell(x, "flip 6; sum;"), 1);
        is("can't be", x.played(1), 0);
        is("no act came", x.about(8), 20);
    }

    private static void undoAndRedo() {
        SolvedChains x = ring(2);
        is("undo of nothing", x.undo(), NONE);
        is("redo of nothing", x.redo(), NONE);
        x.set(0);
        int[] powers = new int[30];
        powers[0] = 1;
        for (int i = 1; i < 26; i++) {
            powers[i] = powers[i - 1] * 2 % 13;
            x.act(2, 0);
            is("kept", x.about(7), Math.min(i, 20));
        }
        is("undo", x.undo(), 19);
        is("at", x.at(0), powers[24]);
        is("undo", x.undo(), 18);
        is("redo", x.redo(), 1);
        is("at", x.at(0), powers[24]);
        is("redo", x.redo(), 0);
        is("at", x.at(0), powers[25]);
        is("redo of no more", x.redo(), NONE);
        for (int i = 19; i >= 0; i--) {
            is("undo", x.undo(), i);
        }
        is("the oldest went", x.at(0), powers[5]);
        is("undo of no more", x.undo(), NONE);
        is("at stays", x.at(0), powers[5]);
        for (int i = 19; i >= 10; i--) {
            is("redo", x.redo(), i);
        }
        is("at", x.at(0), powers[15]);
        is("about(7)", x.about(7), 10);
        is("about(8)", x.about(8), 10);
        is("a wrong act", x.act(1, 2), false);
        is("a wrong act ends nothing", x.about(8), 10);
        is("another act", x.act(0, 0), true);
        is("about(7)", x.about(7), 11);
        is("about(8)", x.about(8), 0);
        is("redo", x.redo(), NONE);
        is("at", x.at(0), powers[15]);
    }

    private static void keptByPrime() {
        SolvedChains x = ring(2);
        x.prime(97);
        x.set(0);
        for (int i = 0; i < 6; i++) {
            x.act(2, 0);
        }
        x.undo();
        x.undo();
        is("2 to the 4", x.at(0), 16);
        x.numbers(1, 50);
        is("numbers told anew leave it", x.at(0), 16);
        x.prime(7);
        is("taken by 7", x.at(0), 2);
        is("undo", x.undo(), 3);
        is("8 by 7", x.at(0), 1);
        x.redo();
        is("redone as it is kept", x.redo(), 1);
        is("32 by 7", x.at(0), 4);
        is("redo", x.redo(), 0);
        is("64 by 7", x.at(0), 1);
        x.prime(97);
        is("it stays taken", x.at(0), 1);
        x.undo();
        is("so do those kept", x.at(0), 4);
        x.back();
        is("the image has its own prime", x.about(2), 13);
        x.prime(97);
        x.set(0);
        for (int i = 0; i < 26; i++) {
            x.act(2, 0);
        }
        x.prime(5);
        for (int i = 0; i < 20; i++) {
            x.undo();
        }
        is("the oldest, 64 by 5", x.at(0), 4);
        x.prime(97);
        is("the oldest stays taken", x.at(0), 4);
        for (int i = 0; i < 20; i++) {
            x.redo();
        }
        int latest = 1;
        for (int i = 0; i < 26; i++) {
            latest = latest * 2 % 97;
        }
        is("the latest redone, by 5", x.at(0), latest % 5);
    }

    private static void atAndNorm() {
        SolvedChains x = ring(3);
        x.prime(97);
        x.numbers(1, 10);
        is("norm of 0", x.norm(), 0);
        x.set(1);
        is("norm of 1", x.norm(), 1);
        x.act(2, 0);
        vector("sum", x, 0, 10, 1, 0, 1, 0, 0, 0);
        is("norm", x.norm(), (100 + 1 + 1) % 97);
        for (int wrong : new int[] {8, -1, LEAST, MOST}) {
            is("at(" + wrong + ")", x.at(wrong), NONE);
        }
        x.chain(2, true);
        is("at(4) of two letters", x.at(4), NONE);
        x.chain(7, true);
        is("at(127)", x.at(127), 0);
        x.set(127);
        is("at(127)", x.at(127), 1);
        is("norm", x.norm(), 1);
    }

    private static void power() {
        SolvedChains x = ring(4);
        is("power 0", x.power(5, 0, 5), 1);
        is("power 0", x.power(5, 0, 3), 0);
        is("power 1", x.power(3, 1, 5), 1);
        is("power 1", x.power(3, 1, 3), 2);
        is("power 2", x.power(1, 2, 1), 6);
        is("power 2", x.power(1, 2, 2), 4);
        is("power 2", x.power(1, 2, 4), 2);
        is("power 2, another count", x.power(1, 2, 3), 0);
        long four = 1;
        for (int i = 0; i < 99; i++) {
            four = four * 4 % 13;
        }
        is("power 99", x.power(15, 99, 15), four);
        int[][] wrong = {{16, 1, 0}, {0, 1, 16}, {-1, 1, 0}, {0, 1, -1}, {0, 100, 0}, {0, -1, 0}, {LEAST, 1, 0},
            {0, LEAST, 0}, {0, MOST, 0}, {0, 1, MOST}};
        for (int[] w : wrong) {
            is("power(" + w[0] + ", " + w[1] + ", " + w[2] + ")", x.power(w[0], w[1], w[2]), NONE);
        }
        x.set(2);
        is("power leaves the vector", x.power(1, 5, 1) >= 0, true);
        vector("power leaves the vector", x, 0, 0, 1, 0, 0, 0, 0, 0, 0, 0, 0, 0, 0, 0, 0, 0);
        x.chain(2, false);
        x.numbers(1, 3);
        is("open", x.power(1, 2, 1), 1);
        is("open", x.power(3, 4, 3), 81 % 13);
    }

    private static void image() {
        SolvedChains x = ring(2);
        x.prime(97);
        x.numbers(5, 9);
        Due.tell(x, "a 7;");
        x.by(0);
        x.set(1);
        x.act(2, 0);
        x.act(1, 0);
        x.act(0, 0);
        x.undo();
        is("image", x.image(), 2);
        is("a further undo", x.undo(), 1);
        x.act(2, 0);
        x.prime(5);
        Due.tell(x, "a 8;");
        x.by(1);
        x.chain(6, false);
        Due.feed(x, "sum");
        is("back", x.back(), 2);
        abouts("back", x, 2, 1, 97, 5, 9, 1, 0, 2, 1, 3);
        vector("back", x, 0, 0, 0, 2);
        is("the text of the image", x.weight(0, 0), 7);
        is("the later text is gone", x.by(1), false);
        is("redo of the image", x.redo(), 0);
        vector("redo", x, 0, 0, 0, 2);
        is("undo of the image", x.undo(), 2);
        is("undo of the image", x.undo(), 1);
        vector("undo", x, 0, 0, 2, 0);
        is("undo of the image", x.undo(), 0);
        vector("undo", x, 0, 1, 0, 0);
        is("the image stays", x.back(), 2);
        abouts("back again", x, 2, 1, 97, 5, 9, 1, 0, 2, 1, 3);
        vector("back again", x, 0, 0, 0, 2);
        x.text();
        is("the number is free again", Due.tell(x, "a 9;"), 1);
        x.by(1);
        is("by the new one", x.weight(0, 0), 9);
        x.chain(7, true);
        is("another image", x.image(), 7);
        x.chain(3, true);
        is("back to the other", x.back(), 7);
        abouts("back to the other", x, 7, 1, 97, 5, 9, 2, 1, 0, 0, 0);
        imageOfFull();
    }

    /** An image of all twenty kept, whose oldest went, is still whole when twenty others have come since. */
    private static void imageOfFull() {
        SolvedChains x = ring(2);
        x.prime(97);
        x.set(0);
        for (int i = 0; i < 33; i++) {
            x.act(2, 0);
        }
        x.undo();
        x.undo();
        int there = x.at(0);
        x.image();
        for (int i = 0; i < 25; i++) {
            x.act(0, 0);
            x.act(1, 0);
        }
        x.back();
        is("about(7)", x.about(7), 18);
        is("about(8)", x.about(8), 2);
        is("at", x.at(0), there);
        is("redo", x.redo(), 1);
        is("at", x.at(0), there * 2 % 97);
        is("redo", x.redo(), 0);
        is("at", x.at(0), there * 4 % 97);
        for (int i = 0; i < 20; i++) {
            x.undo();
        }
        int oldest = 1;
        for (int i = 0; i < 13; i++) {
            oldest = oldest * 2 % 97;
        }
        is("the oldest", x.at(0), oldest);
        is("no more", x.undo(), NONE);
    }

    private static void about() {
        SolvedChains x = ring(3);
        for (int wrong : new int[] {10, -1, -2, 11, LEAST, MOST}) {
            is("about(" + wrong + ")", x.about(wrong), -2);
        }
        x.chain(5, false);
        x.prime(11);
        x.numbers(7, 8);
        Due.tell(x, "sum;sum;shift;");
        Due.tell(x, "a u;");
        x.by(1);
        x.set(3);
        x.played(0);
        x.undo();
        Due.feed(x, "seven..");
        abouts("all", x, 5, 0, 11, 7, 8, 2, 1, 2, 1, 7);
    }
}
