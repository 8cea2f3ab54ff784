import java.util.ArrayList;
import java.util.List;

/**
 * Objects that are led the same way. What a call has changed, and what it hasn't, shows in all that two of them
 * answer from then on: the probe asks for everything that an object holds, what can be undone and redone, the bytes
 * of the tape, the texts and the image among it. Setting up and probing stay well below the 512 calls of an object.
 */
final class Twin {
    private Twin() { }

    interface Call {
        long on(SolvedChains x);
    }

    interface Made {
        SolvedChains one();
    }

    static long bit(boolean answer) {
        return answer ? 1 : 0;
    }

    /** The call answers what is due, and an object that had it answers all else like one that hadn't. */
    static void leaves(Due due, String told, Made made, Call call, long want) {
        SolvedChains x = made.one();
        due.is(told, call.on(x), want);
        List<Long> got = probe(x);
        List<Long> held = probe(made.one());
        due.is(told + ": as many answers behind it", got.size(), held.size());
        for (int i = 0; i < Math.min(got.size(), held.size()); i++) {
            due.is(told + ": changed nothing, answer " + i, got.get(i), held.get(i));
        }
    }

    /** The same for objects of all kinds below. */
    static void leavesAll(Due due, String told, Call call, long want) {
        leaves(due, told + " of a fresh one", Twin::fresh, call, want);
        leaves(due, told + " of a ring", Twin::ring, call, want);
        leaves(due, told + " of open ends", Twin::open, call, want);
        leaves(due, told + " of a full one", Twin::full, call, want);
    }

    static SolvedChains fresh() {
        return new SolvedChains(2);
    }

    /** Three letters by 11, something to undo, to redo and to read, a fault, and an image that is another. */
    static SolvedChains ring() {
        SolvedChains x = new SolvedChains(5);
        x.chain(3, true);
        x.prime(11);
        x.numbers(3, 7);
        Due.tell(x, "a u+2; b 3*u; c 5;");
        Due.tell(x, "shift;sum;flip 2;");
        x.by(0);
        x.set(1);
        x.act(2, 0);
        x.act(3, 4);
        x.undo();
        x.image();
        x.act(0, 0);
        x.act(1, 2);
        x.act(2, 0);
        x.undo();
        Due.tell(x, "c d;");
        x.by(2);
        x.numbers(4, 9);
        Due.tell(x, "a 1;a 2;");
        Due.feed(x, "shift;flip 1;");
        return x;
    }

    /** Four letters with open ends by 7. */
    static SolvedChains open() {
        SolvedChains x = new SolvedChains(4);
        x.prime(7);
        x.numbers(6, 0);
        x.set(9);
        x.act(2, 0);
        x.image();
        Due.tell(x, "b u*u;");
        x.chain(4, false);
        x.set(3);
        x.act(2, 0);
        x.act(3, 6);
        x.act(0, 0);
        x.undo();
        x.undo();
        Due.feed(x, "sum");
        return x;
    }

    /** Four texts, three hundred bytes on the tape, twenty acts kept of more. */
    static SolvedChains full() {
        SolvedChains x = new SolvedChains(2);
        x.prime(97);
        Due.tell(x, "a 1;");
        x.image();
        Due.tell(x, "b 2;c 7;");
        Due.tell(x, "sum;flip 1;");
        Due.tell(x, "");
        x.by(1);
        x.set(2);
        for (int i = 0; i < 23; i++) {
            x.act(2 - i % 3, 0);
        }
        x.undo();
        Due.feed(x, "sum;".repeat(29) + " ".repeat(181) + "sh;");
        return x;
    }

    static List<Long> probe(SolvedChains x) {
        List<Long> all = new ArrayList<>();
        numbers(x, all);
        rows(x, all);
        // The tape: it is read, or stays if there are four texts.
        int text = x.text();
        all.add((long) text);
        all.add((long) x.fault(0));
        all.add((long) x.fault(1));
        all.add((long) x.about(9));
        all.add(bit(x.set(1)));
        all.add((long) x.played(text));
        vector(x, all);
        all.add((long) x.back());
        numbers(x, all);
        rows(x, all);
        all.add((long) x.text());
        all.add((long) x.fault(0));
        all.add((long) x.fault(1));
        return all;
    }

    private static void numbers(SolvedChains x, List<Long> all) {
        for (int i = 0; i < 10; i++) {
            all.add((long) x.about(i));
        }
        all.add((long) x.fault(0));
        all.add((long) x.fault(1));
        for (int which = 0; which < 3; which++) {
            all.add((long) x.weight(which, 0));
            all.add((long) x.weight(which, 3));
        }
        all.add((long) x.sum(1, 2));
        all.add((long) x.sum(3, 3));
        all.add((long) x.table(2, 1, 2));
    }

    /** The vector, all before it and all undone; it stands at the end where it stood. */
    private static void rows(SolvedChains x, List<Long> all) {
        vector(x, all);
        int undone = x.about(8);
        for (int left = x.undo(); left >= 0; left = x.undo()) {
            all.add((long) left);
            vector(x, all);
        }
        for (int left = x.redo(); left >= 0; left = x.redo()) {
            all.add((long) left);
            vector(x, all);
        }
        for (int i = 0; i < undone; i++) {
            all.add((long) x.undo());
        }
    }

    private static void vector(SolvedChains x, List<Long> all) {
        int states = 1 << x.about(0);
        for (int s = 0; s < states; s++) {
            all.add((long) x.at(s));
        }
        all.add((long) x.norm());
    }
}
