import java.util.List;

/**
 * Answers are by what holds when they are asked for. Two standings that differ in one thing (n, the ends, P, ETA, D,
 * THE TEXT) are told to one object, one behind the other, and every question is asked in both: the second answers must
 * be those of an object that never knew the first standing; so must those behind going back to an image.
 */
public final class AskedAnewTest {
    private static final Due DUE = new Due("AskedAnewTest");
    private static final int NONE = SolvedChains.NONE;

    /** What an object is told, with its name; each names all that questions depend on. */
    private record Standing(String name, int n, boolean ring, int p, int eta, int d, int text) {
        void tell(SolvedChains x) {
            x.chain(n, ring);
            x.prime(p);
            x.numbers(eta, d);
            x.by(text);
            x.set(1);
            x.act(2, 0);
        }
    }

    private static final List<Standing> STANDINGS = List.of(
            new Standing("plain", 4, true, 13, 1, 1, NONE),
            new Standing("fewer letters", 3, true, 13, 1, 1, NONE),
            new Standing("more letters", 7, true, 13, 1, 1, NONE),
            new Standing("open ends", 4, false, 13, 1, 1, NONE),
            new Standing("a smaller P", 4, true, 5, 1, 1, NONE),
            new Standing("a larger P", 4, true, 97, 1, 1, NONE),
            new Standing("another ETA", 4, true, 13, 5, 1, NONE),
            new Standing("another D", 4, true, 13, 1, 6, NONE),
            new Standing("a text", 4, true, 13, 1, 1, 0),
            new Standing("another text", 4, true, 13, 1, 1, 1));

    private static final List<Twin.Call> QUESTIONS = List.of(
            x -> x.weight(0, 3), x -> x.weight(1, 3), x -> x.weight(2, 3),
            x -> x.equation(0), x -> x.equation(1), x -> x.equation(2),
            x -> x.sum(3, 3), x -> x.sum(1, 4), x -> x.table(2, 1, 2), x -> x.table(2, 0, 0), x -> x.table(4, 5, 3),
            x -> Twin.bit(x.commute(1, 2)), x -> Twin.bit(x.commute(3, 4)), x -> Twin.bit(x.keeps(2)),
            x -> x.size(2, NONE), x -> x.size(2, 0), x -> x.size(1, 1), x -> x.trace(1, 3), x -> x.trace(2, 99),
            x -> x.poly(1, NONE, 0), x -> x.poly(1, NONE, 1), x -> x.poly(1, 0, 0), x -> x.poly(1, NONE, 2),
            x -> x.poly(1, 1, 0), x -> x.poly(2, 1, 0), x -> x.poly(2, NONE, 1), x -> x.poly(2, 0, 1),
            x -> x.own(1, NONE), x -> x.own(2, 0), x -> x.often(1, 2), x -> x.often(2, 0), x -> x.root(),
            x -> x.mean(1, 1), x -> x.mean(2, 2),
            x -> x.pair(0, 0, 10), x -> x.pair(1, NONE, 0), x -> x.pair(1, 0, 0), x -> x.pair(1, 0, 11),
            x -> x.pair(2, NONE, 0), x -> x.pair(2, 0, 0), x -> x.pair(2, 0, 10), x -> x.pair(2, 0, 12),
            x -> x.pair(2, 0, 14), x -> x.pair(2, 0, 30), x -> x.pair(2, 0, 31), x -> x.pair(2, 0, 32),
            x -> x.pair(1, 0, 32), x -> x.at(1), x -> x.norm(), x -> x.power(1, 7, 1), x -> x.power(3, 99, 5));

    public static void main(String[] args) {
        for (Standing first : STANDINGS) {
            for (Standing second : STANDINGS) {
                DUE.sentence("answers are by what holds now: " + first.name + ", then " + second.name);
                toldAnew(first, second);
                goneBack(first, second);
            }
        }
        oneBehindTheOther();
        textsUnderOneNumber();
        DUE.end();
    }

    private static SolvedChains made(Standing standing) {
        SolvedChains x = new SolvedChains(5);
        Due.tell(x, "a 2*u+1; b u*u; c d+3;");
        Due.tell(x, "a 1; b 1; c 1;");
        standing.tell(x);
        return x;
    }

    private static void askAll(SolvedChains x) {
        for (Twin.Call question : QUESTIONS) {
            question.on(x);
        }
    }

    private static void compareAll(SolvedChains x, Standing due) {
        SolvedChains y = made(due);
        for (int i = 0; i < QUESTIONS.size(); i++) {
            DUE.is("question " + i, QUESTIONS.get(i).on(x), QUESTIONS.get(i).on(y));
        }
    }

    private static void toldAnew(Standing first, Standing second) {
        SolvedChains x = made(first);
        askAll(x);
        second.tell(x);
        compareAll(x, second);
        // One question alone, so that none of those between has made the answer new.
        for (Twin.Call question : QUESTIONS) {
            SolvedChains y = made(first);
            question.on(y);
            second.tell(y);
            DUE.is("question alone", question.on(y), question.on(made(second)));
        }
    }

    private static void goneBack(Standing first, Standing second) {
        SolvedChains x = made(second);
        x.image();
        first.tell(x);
        askAll(x);
        x.back();
        compareAll(x, second);
    }

    /** Every question behind every other, without anything told between. */
    private static void oneBehindTheOther() {
        DUE.sentence("an answer doesn't depend on what was asked before");
        SolvedChains fresh = made(STANDINGS.get(8));
        long[] due = new long[QUESTIONS.size()];
        for (int i = 0; i < due.length; i++) {
            due[i] = QUESTIONS.get(i).on(fresh);
        }
        for (int i = 0; i < due.length; i++) {
            SolvedChains x = made(STANDINGS.get(8));
            for (int k = 0; k < due.length; k++) {
                DUE.is("question " + i, QUESTIONS.get(i).on(x), due[i]);
                DUE.is("question " + k + " behind " + i, QUESTIONS.get(k).on(x), due[k]);
            }
        }
    }

    private static void textsUnderOneNumber() {
        DUE.sentence("TEXTS told behind it are gone: what another under its number said doesn't hold");
        String[] texts = {"", "a 1;b 1;c 1;", "a u;b 0;c 1;", "b u+1;", "c 0;", "sum;a 5;"};
        for (String first : texts) {
            for (String second : texts) {
                SolvedChains x = new SolvedChains(4);
                x.by(Due.tell(x, first));
                askAll(x);
                x.back();
                x.by(Due.tell(x, second));
                SolvedChains y = new SolvedChains(4);
                y.by(Due.tell(y, second));
                for (int i = 0; i < QUESTIONS.size(); i++) {
                    DUE.is(second + " behind " + first + ", question " + i, QUESTIONS.get(i).on(x),
                            QUESTIONS.get(i).on(y));
                }
            }
        }
    }
}
