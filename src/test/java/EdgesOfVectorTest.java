/**
 * Every sentence of 'Terms' V, and of promises 24 to 34, that names a bound: the last input that is allowed, the first
 * that isn't, on both sides, and that a refused call has changed nothing.
 */
public final class EdgesOfVectorTest {
    private static final Due DUE = new Due("EdgesOfVectorTest");
    private static final int NONE = SolvedChains.NONE;
    private static final int LEAST = Integer.MIN_VALUE;
    private static final int MOST = Integer.MAX_VALUE;

    public static void main(String[] args) {
        set();
        setEndsUndoing();
        setOfOthers();
        shift();
        turned();
        theSum();
        theTable();
        whateverV();
        actsOfOthers();
        twentyAreKept();
        undone();
        redone();
        redoneNoMore();
        played();
        playedInOrder();
        playedUpTo();
        playedOfNothing();
        playedOfOthers();
        at();
        norm();
        power();
        powerOfOthers();
        image();
        imageKeeps();
        imageKeepsNot();
        imageOfTexts();
        imageOfTwenty();
        back();
        about();
        DUE.end();
    }

    private static void is(String call, long got, long want) {
        DUE.is(call, got, want);
    }

    private static void is(String call, boolean got, boolean want) {
        DUE.is(call, got, want);
    }

    private static void vector(String told, SolvedChains x, int... due) {
        for (int s = 0; s < due.length; s++) {
            is(told + ": at(" + s + ")", x.at(s), due[s]);
        }
    }

    /** Two letters by 97 whose vector at state 0 is 2 to the number of acts. */
    private static SolvedChains doubled(int acts) {
        SolvedChains x = Due.made(2, true, 97);
        x.set(0);
        for (int i = 0; i < acts; i++) {
            x.act(2, 0);
        }
        return x;
    }

    private static void set() {
        DUE.sentence("24: THE VECTOR is 1 at a STATE, else 0: true");
        for (int n = 2; n <= 7; n++) {
            SolvedChains x = Due.made(n, true, 13);
            int last = (1 << n) - 1;
            for (int state : new int[] {0, last, 1, last - 1}) {
                is("set(" + state + ") of " + n, x.set(state), true);
                is("at(" + state + ")", x.at(state), 1);
                is("all else 0", x.norm(), 1);
                x.act(2, 0);
                x.act(2, 0);
            }
            is("behind acts", x.set(1), true);
            for (int s = 0; s <= last; s++) {
                is("at(" + s + ") of " + n, x.at(s), s == 1 ? 1 : 0);
            }
        }
    }

    private static void setEndsUndoing() {
        DUE.sentence("V: To set THE VECTOR ends what could be undone");
        SolvedChains x = doubled(5);
        x.undo();
        x.undo();
        is("set", x.set(0), true);
        is("about(7)", x.about(7), 0);
        is("about(8)", x.about(8), 0);
        is("undo", x.undo(), NONE);
        is("redo", x.redo(), NONE);
        is("the vector as it was set", x.at(0), 1);
        x.act(2, 0);
        is("a new act can be", x.undo(), 0);
        is("set again", x.set(0), true);
        is("the same state too", x.redo(), NONE);
    }

    private static void setOfOthers() {
        DUE.sentence("24: False for others");
        for (int n = 2; n <= 7; n++) {
            SolvedChains x = Due.made(n, false, 13);
            x.set(1);
            x.act(0, 0);
            x.act(0, 0);
            x.undo();
            for (int wrong : new int[] {1 << n, -1, (1 << n) + 1, -2, LEAST, MOST}) {
                is("set(" + wrong + ") of " + n, x.set(wrong), false);
                is("the vector stays", x.at(2), 1);
                is("what can be undone stays", x.about(7), 1);
                is("what can be redone stays", x.about(8), 1);
            }
        }
        for (int wrong : new int[] {128, -1, LEAST, MOST}) {
            Twin.leavesAll(DUE, "set(" + wrong + ")", x -> Twin.bit(x.set(wrong)), 0);
        }
        Twin.leaves(DUE, "set(8) of three letters", Twin::ring, x -> Twin.bit(x.set(8)), 0);
        Twin.leaves(DUE, "set(16) of four letters", Twin::open, x -> Twin.bit(x.set(16)), 0);
        Twin.leaves(DUE, "set(4) of two letters", Twin::full, x -> Twin.bit(x.set(4)), 0);
    }

    private static void shift() {
        DUE.sentence("III: SHIFT: each LETTER i comes to i + 1 (the last one to 0)");
        for (int n = 2; n <= 7; n++) {
            for (int ring = 0; ring < 2; ring++) {
                SolvedChains x = Due.made(n, ring == 1, 13);
                for (int i = 0; i < n; i++) {
                    x.set(1 << i);
                    x.act(0, 0);
                    is("LETTER " + i + " of " + n, x.at(1 << ((i + 1) % n)), 1);
                    is("and nowhere else", x.norm(), 1);
                }
                x.set((1 << n) - 1);
                x.act(0, 0);
                is("all up", x.at((1 << n) - 1), 1);
                x.set((1 << n) - 2);
                x.act(0, 0);
                is("all but LETTER 0", x.at((1 << n) - 3), 1);
                x.set((1 << (n - 1)) | 1);
                x.act(0, 0);
                is("the last and the first", x.at(3), 1);
            }
        }
    }

    private static void turned() {
        DUE.sentence("V: 1 a LETTER is turned (up to down, down to up); 25: v: the LETTER");
        for (int n = 2; n <= 7; n++) {
            SolvedChains x = Due.made(n, true, 13);
            for (int i = 0; i < n; i++) {
                x.set(0);
                is("LETTER " + i + " of " + n, x.act(1, i), true);
                is("up", x.at(1 << i), 1);
                is("up alone", x.norm(), 1);
                is("LETTER " + i + " again", x.act(1, i), true);
                is("down", x.at(0), 1);
            }
            x.set((1 << n) - 1);
            x.act(1, n - 1);
            is("the last down", x.at((1 << (n - 1)) - 1), 1);
            is("LETTER n", x.act(1, n), false);
            is("LETTER -1", x.act(1, -1), false);
            is("it stays", x.at((1 << (n - 1)) - 1), 1);
            is("one act", x.about(7), 1);
        }
    }

    private static void theSum() {
        DUE.sentence("V: 2 THE SUM: of ring and open ends, by P");
        SolvedChains x = Due.made(3, true, 13);
        x.numbers(1, 12);
        x.set(1);
        is("act(2)", x.act(2, 0), true);
        vector("ring", x, 0, 12, 1, 0, 1, 0, 0, 0);
        x.act(2, 0);
        vector("ring twice", x, 0, (144 + 2) % 13, 25 % 13, 0, 25 % 13, 0, 0, 0);
        x.chain(3, false);
        x.set(1);
        x.act(2, 0);
        vector("open", x, 0, 12, 1, 0, 0, 0, 0, 0);
        x.chain(2, true);
        x.set(2);
        x.act(2, 0);
        vector("two letters", x, 0, 2, 0, 0);
        x.set(3);
        x.act(2, 0);
        vector("two letters up", x, 0, 0, 0, 24 % 13);
        x = Due.made(5, true, 5);
        x.set(0);
        x.act(2, 0);
        is("five by 5", x.norm(), 0);
        is("it is an ACT all the same", x.about(7), 1);
    }

    private static void theTable() {
        DUE.sentence("V: 3 THE TABLE for u; 25: v: u of 3 (0 .. P - 1)");
        for (int p : new int[] {5, 13, 97}) {
            SolvedChains x = Due.made(3, false, p);
            x.by(Due.tell(x, "a 2+u; b 3; c 5-u;"));
            for (int u : new int[] {0, 1, p - 1}) {
                for (int state : new int[] {0, 5, 7}) {
                    x.set(state);
                    is("act(3, " + u + ") by " + p, x.act(3, u), true);
                    for (int s = 0; s < 8; s++) {
                        is("as TABLE(" + state + ", " + s + ") says", x.at(s), x.table(u, state, s));
                    }
                }
            }
            for (int wrong : new int[] {p, -1, p + 1, LEAST, MOST}) {
                is("act(3, " + wrong + ") by " + p, x.act(3, wrong), false);
            }
            is("one act", x.about(7), 1);
        }
    }

    private static void whateverV() {
        DUE.sentence("25: of others it doesn't matter");
        for (int v : new int[] {0, 6, 7, 96, 97, -1, LEAST, MOST}) {
            SolvedChains x = Due.made(2, true, 13);
            x.set(1);
            is("act(0, " + v + ")", x.act(0, v), true);
            is("shifted", x.at(2), 1);
            is("act(2, " + v + ")", x.act(2, v), true);
            is("summed", x.at(1), 2);
        }
    }

    private static void actsOfOthers() {
        DUE.sentence("25: False for others");
        int[][] wrong = {{-1, 0}, {4, 0}, {5, 0}, {-2, 1}, {LEAST, 0}, {MOST, 0}, {1, 7}, {1, -1}, {1, LEAST},
            {1, MOST}, {3, 97}, {3, -1}, {3, LEAST}, {3, MOST}};
        for (int[] w : wrong) {
            Twin.leavesAll(DUE, "act(" + w[0] + ", " + w[1] + ")", x -> Twin.bit(x.act(w[0], w[1])), 0);
        }
        Twin.leaves(DUE, "LETTER 3 of three", Twin::ring, x -> Twin.bit(x.act(1, 3)), 0);
        Twin.leaves(DUE, "LETTER 4 of four", Twin::open, x -> Twin.bit(x.act(1, 4)), 0);
        Twin.leaves(DUE, "LETTER 2 of two", Twin::full, x -> Twin.bit(x.act(1, 2)), 0);
        Twin.leaves(DUE, "u 11 by 11", Twin::ring, x -> Twin.bit(x.act(3, 11)), 0);
        Twin.leaves(DUE, "u 7 by 7", Twin::open, x -> Twin.bit(x.act(3, 7)), 0);
    }

    private static void twentyAreKept() {
        DUE.sentence("V: Up to 20 are kept");
        for (int acts = 0; acts <= 20; acts++) {
            SolvedChains x = doubled(acts);
            is("about(7) behind " + acts, x.about(7), acts);
            for (int i = acts - 1; i >= 0; i--) {
                is("undo", x.undo(), i);
                is("at(0)", x.at(0), Due.raised(2, i, 97));
            }
            is("no more", x.undo(), NONE);
            is("the first vector", x.at(0), 1);
        }
        DUE.sentence("V: the oldest goes");
        for (int acts : new int[] {21, 22, 39, 40, 41, 42, 43, 64, 100}) {
            SolvedChains x = doubled(acts);
            is("about(7) behind " + acts, x.about(7), 20);
            for (int i = 19; i >= 0; i--) {
                is("undo", x.undo(), i);
                is("at(0)", x.at(0), Due.raised(2, acts - 20 + i, 97));
            }
            is("no more", x.undo(), NONE);
            is("the oldest that is kept", x.at(0), Due.raised(2, acts - 20, 97));
            is("all can be redone", x.about(8), 20);
            for (int i = 19; i >= 0; i--) {
                is("redo", x.redo(), i);
                is("at(0)", x.at(0), Due.raised(2, acts - i, 97));
            }
            is("no more", x.redo(), NONE);
        }
    }

    private static void undone() {
        DUE.sentence("27: The latest ACT is UNDONE: how many can be yet");
        SolvedChains x = Due.made(2, true, 97);
        x.set(1);
        x.act(2, 0);
        x.act(1, 0);
        x.act(3, 5);
        x.act(0, 0);
        is("of SHIFT", x.undo(), 3);
        is("of THE TABLE", x.undo(), 2);
        vector("turned", x, 0, 0, 0, 2);
        is("of a turned LETTER", x.undo(), 1);
        vector("summed", x, 0, 0, 2, 0);
        is("of THE SUM", x.undo(), 0);
        vector("set", x, 0, 1, 0, 0);
        DUE.sentence("27: NONE, if there is none");
        is("undo", x.undo(), NONE);
        vector("still set", x, 0, 1, 0, 0);
        is("about(7)", x.about(7), 0);
        is("about(8)", x.about(8), 4);
        Twin.leaves(DUE, "undo of a fresh one", Twin::fresh, SolvedChains::undo, NONE);
        Twin.Made exhausted = () -> {
            SolvedChains y = Twin.full();
            while (y.about(7) > 0) {
                y.undo();
            }
            return y;
        };
        Twin.leaves(DUE, "undo of one that has no more", exhausted, SolvedChains::undo, NONE);
        Twin.leaves(DUE, "undo and redo", Twin::ring, y -> y.undo() + y.redo(), 3);
    }

    private static void redone() {
        DUE.sentence("28: The latest one UNDONE is REDONE: how many can be yet");
        SolvedChains x = doubled(4);
        x.undo();
        x.undo();
        x.undo();
        is("redo", x.redo(), 2);
        is("at(0)", x.at(0), 4);
        is("redo", x.redo(), 1);
        is("at(0)", x.at(0), 8);
        is("undo between", x.undo(), 2);
        is("redo", x.redo(), 1);
        is("redo", x.redo(), 0);
        is("at(0)", x.at(0), 16);
        is("about(7)", x.about(7), 4);
        DUE.sentence("28: NONE, if there is none");
        is("redo", x.redo(), NONE);
        is("at(0)", x.at(0), 16);
        is("about(7)", x.about(7), 4);
        Twin.leaves(DUE, "redo of a fresh one", Twin::fresh, SolvedChains::redo, NONE);
        Twin.Made whole = () -> {
            SolvedChains y = Twin.full();
            y.redo();
            return y;
        };
        Twin.leaves(DUE, "redo of one that has no more", whole, SolvedChains::redo, NONE);
    }

    private static void redoneNoMore() {
        DUE.sentence("V: REDONE, as long as no other ACT came");
        for (int act = 0; act <= 3; act++) {
            SolvedChains x = doubled(4);
            x.undo();
            x.undo();
            is("act " + act, x.act(act, 1), true);
            is("about(7)", x.about(7), 3);
            is("about(8)", x.about(8), 0);
            is("redo", x.redo(), NONE);
            is("undo", x.undo(), 2);
            is("at(0)", x.at(0), 4);
        }
        SolvedChains x = doubled(25);
        for (int i = 0; i < 20; i++) {
            x.undo();
        }
        x.act(0, 0);
        is("one behind twenty undone", x.about(7), 1);
        is("none of the twenty", x.redo(), NONE);
        DUE.sentence("V: one that came by PLAYING is another ACT");
        x = doubled(4);
        Due.tell(x, "a 1;shift;");
        x.undo();
        x.played(0);
        is("about(8)", x.about(8), 0);
        DUE.sentence("V: what is no ACT leaves what can be redone");
        x = doubled(4);
        x.undo();
        x.numbers(2, 2);
        x.prime(89);
        Due.tell(x, "a 1;");
        x.by(0);
        x.act(1, 2);
        x.act(3, 89);
        x.act(4, 0);
        x.set(4);
        x.played(1);
        x.played(0);
        x.image();
        x.norm();
        x.power(1, 5, 1);
        is("about(8)", x.about(8), 1);
        is("redo", x.redo(), 0);
        is("at(0)", x.at(0), 16);
    }

    private static void played() {
        DUE.sentence("26: PLAYED by a TEXT: NONE: all is done");
        SolvedChains x = Due.made(3, true, 13);
        Due.tell(x, "flip 0;");
        Due.tell(x, "shift;");
        Due.tell(x, "sum;");
        Due.tell(x, "table 2*eta+d;");
        x.set(0);
        is("flip", x.played(0), NONE);
        vector("flip 0", x, 0, 1, 0, 0, 0, 0, 0, 0);
        is("shift", x.played(1), NONE);
        vector("shift", x, 0, 0, 1, 0, 0, 0, 0, 0);
        is("sum", x.played(2), NONE);
        vector("sum", x, 0, 1, 1, 0, 1, 0, 0, 0);
        x.set(1);
        is("table", x.played(3), NONE);
        for (int s = 0; s < 8; s++) {
            is("as TABLE for 3 says of " + s, x.at(s), x.table(3, 1, s));
        }
        x.numbers(12, 11);
        x.set(1);
        x.played(3);
        for (int s = 0; s < 8; s++) {
            is("by ETA and D as they are then, 9: " + s, x.at(s), x.table(9, 1, s));
        }
        x.prime(5);
        x.set(1);
        x.played(3);
        for (int s = 0; s < 8; s++) {
            is("by P as it is then, ETA 2, D 1, 0: " + s, x.at(s), x.table(0, 1, s));
        }
    }

    private static void playedInOrder() {
        DUE.sentence("V: its shift, flip, sum, table clauses as ACTS, in their order");
        SolvedChains x = Due.made(3, true, 13);
        Due.tell(x, "a 2;flip 0;b 3;shift;c 5;sum;flip 2;table 4;");
        x.by(0);
        x.set(0);
        is("played", x.played(0), NONE);
        is("five ACTS", x.about(7), 5);
        int[] got = new int[8];
        for (int s = 0; s < 8; s++) {
            got[s] = x.at(s);
        }
        is("undo", x.undo(), 4);
        vector("ahead of table", x, 1, 0, 0, 0, 0, 1, 1, 0);
        is("undo", x.undo(), 3);
        vector("ahead of flip 2", x, 0, 1, 1, 0, 1, 0, 0, 0);
        is("undo", x.undo(), 2);
        vector("ahead of sum", x, 0, 0, 1, 0, 0, 0, 0, 0);
        is("undo", x.undo(), 1);
        vector("ahead of shift", x, 0, 1, 0, 0, 0, 0, 0, 0);
        is("undo", x.undo(), 0);
        vector("ahead of flip 0", x, 1, 0, 0, 0, 0, 0, 0, 0);
        x.act(1, 0);
        x.act(0, 0);
        x.act(2, 0);
        x.act(1, 2);
        x.act(3, 4);
        vector("by hand", x, got);
        DUE.sentence("V: PLAYED: up to 20 of them are kept");
        x = Due.made(2, true, 97);
        Due.tell(x, "sum;".repeat(30));
        x.set(0);
        is("played", x.played(0), NONE);
        is("about(7)", x.about(7), 20);
        is("at(0)", x.at(0), Due.raised(2, 30, 97));
        is("played again", x.played(0), NONE);
        is("at(0)", x.at(0), Due.raised(2, 60, 97));
        for (int i = 19; i >= 0; i--) {
            x.undo();
        }
        is("the oldest", x.at(0), Due.raised(2, 40, 97));
    }

    private static void playedUpTo() {
        DUE.sentence("26: else the number of the CLAUSE that can't be: its number among all CLAUSES (from 0)");
        for (int n = 2; n <= 6; n++) {
            SolvedChains x = Due.made(n, true, 13);
            Due.tell(x, "flip " + (n - 1) + ";");
            Due.tell(x, "flip " + n + ";");
            Due.tell(x, "a 1;b 2;flip 0;c 3;flip " + n + ";flip 1;");
            x.set(0);
            is("LETTER n - 1 of " + n, x.played(0), NONE);
            is("turned", x.at(1 << (n - 1)), 1);
            is("LETTER n of " + n, x.played(1), 0);
            is("not turned", x.at(1 << (n - 1)), 1);
            x.set(0);
            is("weights count among all", x.played(2), 4);
            DUE.sentence("26: (what was done stays)");
            is("LETTER 0 is turned", x.at(1), 1);
            is("one ACT", x.about(7), 1);
            is("it can be undone", x.undo(), 0);
            is("as it was set", x.at(0), 1);
            DUE.sentence("26: else the number of the CLAUSE that can't be: its number among all CLAUSES (from 0)");
            x.chain(n + 1, true);
            x.set(0);
            is("one LETTER more", x.played(2), NONE);
            is("three ACTS", x.about(7), 3);
        }
        SolvedChains x = Due.made(2, true, 13);
        Due.tell(x, "shift;".repeat(29) + "flip 2;");
        x.set(1);
        is("the thirtieth", x.played(0), 29);
        is("29 shifts", x.at(2), 1);
        x = Due.made(7, true, 13);
        Due.tell(x, "flip 6;");
        x.set(0);
        is("LETTER 6 of seven", x.played(0), NONE);
        is("turned", x.at(64), 1);
    }

    private static void playedOfNothing() {
        DUE.sentence("V: one that can't be ends it: as the first, nothing is done");
        Twin.Made made = () -> {
            SolvedChains x = new SolvedChains(3);
            Due.tell(x, "flip 3;shift;");
            Due.tell(x, "a 1;flip 6;shift;");
            Due.tell(x, "a u;b u;c u;");
            x.set(1);
            x.act(2, 0);
            x.act(0, 0);
            x.undo();
            return x;
        };
        Twin.leaves(DUE, "flip 3 first", made, x -> x.played(0), 0);
        Twin.leaves(DUE, "flip 6 behind a weight", made, x -> x.played(1), 1);
        Twin.leaves(DUE, "weights alone", made, x -> x.played(2), NONE);
        Twin.leaves(DUE, "an empty TEXT", Twin::full, x -> x.played(3), NONE);
    }

    private static void playedOfOthers() {
        DUE.sentence("26: -2 for others");
        SolvedChains x = Due.made(3, true, 13);
        is("played(0) of none", x.played(0), -2);
        for (int i = 0; i < 4; i++) {
            Due.tell(x, "sum;");
            is("the last", x.played(i), NONE);
            is("the next", x.played(i + 1), -2);
        }
        for (int wrong : new int[] {4, 5, NONE, -2, LEAST, MOST}) {
            Twin.leavesAll(DUE, "played(" + wrong + ")", y -> y.played(wrong), -2);
        }
        Twin.leaves(DUE, "played(3) of three", Twin::ring, y -> y.played(3), -2);
        Twin.leaves(DUE, "played(0) of none", Twin::fresh, y -> y.played(0), -2);
        x.image();
        x.back();
        is("of the image", x.played(3), NONE);
        SolvedChains y = Due.made(3, true, 13);
        y.image();
        Due.tell(y, "sum;");
        y.back();
        is("one that is gone", y.played(0), -2);
    }

    private static void at() {
        DUE.sentence("29: THE VECTOR at a STATE. NONE for others");
        for (int n = 2; n <= 7; n++) {
            SolvedChains x = Due.made(n, true, 13);
            int last = (1 << n) - 1;
            x.set(last);
            is("the last of " + n, x.at(last), 1);
            is("the first of " + n, x.at(0), 0);
            for (int wrong : new int[] {last + 1, -1, 128, LEAST, MOST}) {
                is("at(" + wrong + ") of " + n, x.at(wrong), NONE);
            }
            x.set(0);
            is("the first of " + n, x.at(0), 1);
        }
        Twin.leavesAll(DUE, "at(128)", x -> x.at(128), NONE);
        Twin.leavesAll(DUE, "at(-1)", x -> x.at(-1), NONE);
        DUE.sentence("29: fewer LETTERS, then more: nothing of before is there");
        SolvedChains x = Due.made(7, true, 13);
        x.set(127);
        x.act(0, 0);
        x.act(1, 0);
        x.chain(2, true);
        x.act(0, 0);
        x.act(1, 1);
        is("at(127) of two", x.at(127), NONE);
        x.chain(7, true);
        x.act(0, 0);
        x.act(1, 0);
        x.act(3, 5);
        for (int s = 0; s < 128; s++) {
            is("at(" + s + ")", x.at(s), 0);
        }
        is("norm", x.norm(), 0);
    }

    private static void norm() {
        DUE.sentence("30: All products of THE VECTOR at a STATE with itself, together (by P)");
        SolvedChains x = Due.made(3, true, 13);
        is("of 0", x.norm(), 0);
        x.set(7);
        is("of 1", x.norm(), 1);
        x.numbers(1, 12);
        x.set(1);
        x.act(2, 0);
        is("144 + 1 + 1", x.norm(), 146 % 13);
        x.prime(5);
        is("2, 1, 1 by 5", x.norm(), 6 % 5);
        x = Due.made(7, true, 97);
        x.numbers(1, 96);
        x.set(3);
        for (int i = 0; i < 5; i++) {
            x.act(2, 0);
        }
        long all = 0;
        for (int s = 0; s < 128; s++) {
            all += (long) x.at(s) * x.at(s);
        }
        is("of seven letters", x.norm(), all % 97);
        x = Due.made(2, true, 5);
        x.set(1);
        x.act(2, 0);
        x.act(1, 0);
        x.act(2, 0);
        is("of one that is 4 by 5", x.norm(), 16 % 5);
        Twin.leaves(DUE, "norm of a fresh one", Twin::fresh, SolvedChains::norm, 0);
    }

    private static void power() {
        DUE.sentence("V: POWER j (0 .. 99): how much of y comes of x by THE SUM j times");
        SolvedChains x = Due.made(2, true, 97);
        x.numbers(1, 3);
        for (int j = 0; j <= 99; j++) {
            is("power(0, " + j + ", 0)", x.power(0, j, 0), Due.raised(6, j, 97));
            is("power(1, " + j + ", 1)", x.power(1, j, 1), j % 2 == 0 ? Due.raised(2, j, 97) : 0);
            is("power(1, " + j + ", 2)", x.power(1, j, 2), j % 2 == 1 ? Due.raised(2, j, 97) : 0);
        }
        DUE.sentence("V: POWER 0: it stays where it is");
        for (int n = 2; n <= 7; n++) {
            SolvedChains y = Due.made(n, n % 2 == 0, 13);
            y.numbers(1, 0);
            int last = (1 << n) - 1;
            is("0", y.power(0, 0, 0), 1);
            is("the last", y.power(last, 0, last), 1);
            is("1 to 2", y.power(1, 0, 2), 0);
            is("the last, power 1 with D 0", y.power(last, 1, last), 0);
        }
        DUE.sentence("V: POWER 1 is SUM(x, y)");
        SolvedChains y = Due.made(3, false, 13);
        y.numbers(1, 7);
        for (int s = 0; s < 8; s++) {
            for (int t = 0; t < 8; t++) {
                is("power(" + s + ", 1, " + t + ")", y.power(s, 1, t), y.sum(s, t));
            }
        }
    }

    private static void powerOfOthers() {
        DUE.sentence("31: NONE for others");
        for (int n = 2; n <= 7; n++) {
            SolvedChains x = Due.made(n, n % 2 == 0, 13);
            int last = (1 << n) - 1;
            is("power(last, 99, 0)", x.power(last, 99, 0), 0);
            is("power(0, 99, last)", x.power(0, 99, last), 0);
            for (int wrong : new int[] {100, -1, 101, LEAST, MOST}) {
                is("power(0, " + wrong + ", 0)", x.power(0, wrong, 0), NONE);
                is("power(last, " + wrong + ", last)", x.power(last, wrong, last), NONE);
            }
            for (int wrong : new int[] {last + 1, -1, LEAST, MOST}) {
                is("power(" + wrong + ", 1, 0)", x.power(wrong, 1, 0), NONE);
                is("power(0, 1, " + wrong + ")", x.power(0, 1, wrong), NONE);
                is("power(" + wrong + ", 0, " + wrong + ")", x.power(wrong, 0, wrong), NONE);
            }
        }
        Twin.leavesAll(DUE, "power(0, 100, 0)", x -> x.power(0, 100, 0), NONE);
        Twin.leavesAll(DUE, "power(0, -1, 0)", x -> x.power(0, -1, 0), NONE);
        Twin.leavesAll(DUE, "power(128, 1, 0)", x -> x.power(128, 1, 0), NONE);
        Twin.leavesAll(DUE, "power(0, 1, -1)", x -> x.power(0, 1, -1), NONE);
        Twin.leavesAll(DUE, "power(1, 99, 0)", x -> x.power(1, 99, 0), 0);
    }

    private static void image() {
        DUE.sentence("32: THE IMAGE is as all is now: n");
        for (int n = 2; n <= 7; n++) {
            SolvedChains x = new SolvedChains(9 - n);
            x.chain(n, n % 2 == 0);
            is("image of " + n, x.image(), n);
            x.chain(9 - n, true);
            is("back to " + n, x.back(), n);
            is("about(0)", x.about(0), n);
            is("about(1)", x.about(1), n % 2 == 0 ? 1 : 0);
        }
        DUE.sentence("32: the latest one counts");
        SolvedChains x = Due.made(2, true, 97);
        x.set(1);
        x.image();
        x.set(2);
        x.image();
        x.set(3);
        x.back();
        is("the latest", x.at(2), 1);
        is("not the one before", x.at(1), 0);
        DUE.sentence("32: to make it changes nothing else");
        SolvedChains y = Twin.ring();
        SolvedChains z = Twin.ring();
        y.image();
        for (int i = 0; i < 10; i++) {
            is("about(" + i + ")", y.about(i), z.about(i));
        }
        for (int s = 0; s < 8; s++) {
            is("at(" + s + ")", y.at(s), z.at(s));
        }
        is("undo", y.undo(), z.undo());
        is("redo", y.redo(), z.redo());
        is("redo", y.redo(), z.redo());
        is("text", y.text(), z.text());
    }

    /** An image of all kinds of things, and then everything else. */
    private static SolvedChains changed() {
        SolvedChains x = Due.made(3, false, 97);
        x.numbers(50, 60);
        Due.tell(x, "a 7;");
        Due.tell(x, "a 8;");
        x.by(1);
        x.set(1);
        x.act(2, 0);
        x.act(0, 0);
        x.act(1, 0);
        x.undo();
        x.image();
        x.act(1, 2);
        x.prime(5);
        x.numbers(4, 0);
        Due.tell(x, "a 9;");
        x.by(2);
        x.chain(7, true);
        x.set(100);
        x.act(0, 0);
        return x;
    }

    private static void imageKeeps() {
        DUE.sentence("33: All is as at THE IMAGE again: THE CHAIN, P, ETA, D, TEXTS, THE TEXT");
        SolvedChains x = changed();
        is("back", x.back(), 3);
        int[] due = {3, 0, 97, 50, 60, 2, 1};
        for (int i = 0; i < due.length; i++) {
            is("about(" + i + ")", x.about(i), due[i]);
        }
        is("a", x.weight(0, 0), 8);
        is("a TEXT of the image", x.by(0), true);
        is("a", x.weight(0, 0), 7);
        DUE.sentence("V: AN IMAGE: what can be undone as well");
        vector("the vector", x, 0, 0, 60, 0, 1, 0, 0, 0);
        is("about(7)", x.about(7), 2);
        is("about(8)", x.about(8), 1);
        is("redo", x.redo(), 0);
        vector("redone", x, 0, 0, 0, 60, 0, 1, 0, 0);
        is("undo", x.undo(), 2);
        is("undo", x.undo(), 1);
        vector("undone", x, 0, 60, 1, 0, 0, 0, 0, 0);
        is("undo", x.undo(), 0);
        vector("undone", x, 0, 1, 0, 0, 0, 0, 0, 0);
        is("undo", x.undo(), NONE);
    }

    private static void imageKeepsNot() {
        DUE.sentence("V: AN IMAGE: all but the tape");
        SolvedChains x = Due.made(2, true, 97);
        Due.feed(x, "sum;");
        x.image();
        Due.feed(x, "shift;");
        x.back();
        is("the tape stays", x.about(9), 10);
        is("it is read", x.text(), 0);
        x.set(1);
        x.played(0);
        is("whole", x.about(7), 2);
        x.back();
        is("a tape that was read doesn't come again", x.about(9), 0);
        x.image();
        Due.feed(x, "flip 1;");
        x.back();
        is("fed behind the image", x.about(9), 7);
        x.end(0);
        x.back();
        is("ended behind the image", x.about(9), 0);
        DUE.sentence("V: AN IMAGE: all but the latest FAULT");
        x = Due.made(2, true, 97);
        x.image();
        Due.tell(x, "a 1;a");
        x.back();
        is("fault(0)", x.fault(0), 4);
        is("fault(1)", x.fault(1), 4);
        x.image();
        Due.tell(x, "a 1;");
        x.back();
        is("fault(0) without", x.fault(0), 0);
        is("fault(1) without", x.fault(1), NONE);
        x = Due.made(2, true, 97);
        Due.tell(x, "");
        x.back();
        is("behind the first image: not ahead of any", x.fault(0), 0);
    }

    private static void imageOfTexts() {
        DUE.sentence("V: TEXTS told behind it are gone behind going back");
        SolvedChains x = Due.made(2, true, 97);
        Due.tell(x, "c 10;");
        x.image();
        for (int i = 1; i < 4; i++) {
            is("text " + i, Due.tell(x, "c 1" + i + ";"), i);
        }
        x.by(3);
        x.back();
        is("about(5)", x.about(5), 1);
        is("about(6)", x.about(6), NONE);
        for (int i = 1; i < 4; i++) {
            is("by(" + i + ")", x.by(i), false);
            is("played(" + i + ")", x.played(i), -2);
        }
        is("by(0)", x.by(0), true);
        is("c", x.weight(2, 0), 10);
        is("the number is told again", Due.tell(x, "c 20;"), 1);
        x.by(1);
        is("c of the new one", x.weight(2, 0), 20);
        is("TABLE of the new one", x.table(0, 1, 2), 400 % 97);
        x.back();
        is("the number is told again", Due.tell(x, "c 30;"), 1);
        x.by(1);
        is("c of the newer one", x.weight(2, 0), 30);
        is("TABLE of the newer one", x.table(0, 1, 2), 900 % 97);
        is("EQUATION of the newer one", x.equation(1), 0);
        DUE.sentence("V: TEXTS told ahead of it stay, all 4 too");
        x = Due.made(2, true, 97);
        for (int i = 0; i < 4; i++) {
            Due.tell(x, "c 1" + i + ";");
        }
        x.image();
        x.by(2);
        Due.feed(x, "sum;");
        x.back();
        is("about(5)", x.about(5), 4);
        is("about(6)", x.about(6), NONE);
        is("there are 4", x.text(), NONE);
        is("the tape stays", x.about(9), 4);
        for (int i = 0; i < 4; i++) {
            x.by(i);
            is("c of " + i, x.weight(2, 0), 10 + i);
        }
    }

    private static void imageOfTwenty() {
        DUE.sentence("V: AN IMAGE of all 20 that can be undone, or redone");
        for (int undone : new int[] {0, 7, 20}) {
            SolvedChains x = doubled(27);
            for (int i = 0; i < undone; i++) {
                x.undo();
            }
            x.image();
            for (int i = 0; i < 30; i++) {
                x.act(1, i % 2);
            }
            x.undo();
            for (int times = 0; times < 2; times++) {
                x.back();
                is("about(7)", x.about(7), 20 - undone);
                is("about(8)", x.about(8), undone);
                is("at(0)", x.at(0), Due.raised(2, 27 - undone, 97));
                for (int i = 0; i < undone; i++) {
                    x.redo();
                }
                is("the latest", x.at(0), Due.raised(2, 27, 97));
                for (int i = 0; i < 20; i++) {
                    x.undo();
                }
                is("the oldest", x.at(0), Due.raised(2, 7, 97));
                is("no more", x.undo(), NONE);
            }
        }
    }

    private static void back() {
        DUE.sentence("33: (it stays): n");
        SolvedChains x = changed();
        for (int i = 0; i < 3; i++) {
            is("back", x.back(), 3);
            is("about(2)", x.about(2), 97);
            is("about(5)", x.about(5), 2);
            is("about(7)", x.about(7), 2);
            is("about(8)", x.about(8), 1);
            vector("the vector", x, 0, 0, 60, 0, 1, 0, 0, 0);
            x.undo();
            x.act(3, 1);
            x.prime(5 + 2 * i);
            x.chain(2 + i, true);
            Due.tell(x, "sum;");
        }
        DUE.sentence("33: what comes behind it doesn't change THE IMAGE");
        x = doubled(3);
        x.image();
        x.undo();
        x.act(1, 1);
        x.prime(5);
        x.back();
        is("at(0)", x.at(0), 8);
        x.act(2, 0);
        x.prime(7);
        x.back();
        is("at(0)", x.at(0), 8);
        x.undo();
        is("undone", x.at(0), 4);
        DUE.sentence("33: back at once changes nothing");
        Twin.Made imaged = () -> {
            SolvedChains y = Twin.ring();
            y.image();
            return y;
        };
        Twin.leaves(DUE, "back", imaged, SolvedChains::back, 3);
        Twin.leaves(DUE, "back of a fresh one", Twin::fresh, SolvedChains::back, 2);
    }

    private static void about() {
        DUE.sentence("34: 0 n, 1 RING, 2 P, 3 ETA, 4 D, 5 TEXTS, 6 THE TEXT, 7 UNDONE, 8 REDONE, 9 the tape");
        SolvedChains x = Due.made(5, false, 17);
        x.numbers(16, 15);
        Due.tell(x, "");
        Due.tell(x, "");
        Due.tell(x, "");
        x.by(2);
        for (int i = 0; i < 10; i++) {
            x.act(0, 0);
        }
        x.undo();
        Due.feed(x, "x".repeat(33));
        int[] due = {5, 0, 17, 16, 15, 3, 2, 9, 1, 33};
        for (int i = 0; i < due.length; i++) {
            is("about(" + i + ")", x.about(i), due[i]);
        }
        DUE.sentence("34: 6 THE TEXT (NONE)");
        x.by(NONE);
        is("about(6)", x.about(6), NONE);
        DUE.sentence("34: -2 for others");
        for (int wrong : new int[] {10, -1, 11, -2, LEAST, MOST}) {
            Twin.leavesAll(DUE, "about(" + wrong + ")", y -> y.about(wrong), -2);
        }
        is("about(9) is the last", Twin.full().about(9), 300);
        is("about(0) is the first", Twin.full().about(0), 2);
    }
}
