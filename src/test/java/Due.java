import java.nio.charset.StandardCharsets;

/** Compares answers with those that are due, and feeds texts. */
final class Due {
    private final String name;
    private int wrong = 0;
    private int asked = 0;
    private String sentence = "";
    private int askedBefore = 0;

    Due(String name) {
        this.name = name;
    }

    /** What follows tests this sentence of the document; one without a single answer would be no test. */
    void sentence(String told) {
        closeSentence();
        sentence = told;
        askedBefore = asked;
    }

    private void closeSentence() {
        if (!sentence.isEmpty() && asked == askedBefore) {
            wrong++;
            System.out.println(name + ": nothing was asked of [" + sentence + "]");
        }
    }

    void is(String call, long got, long want) {
        asked++;
        if (got != want) {
            wrong++;
            String of = sentence.isEmpty() ? "" : "[" + sentence + "] ";
            System.out.println(name + ": " + of + call + " answered " + got + ", due is " + want);
        }
    }

    void is(String call, boolean got, boolean want) {
        is(call, got ? 1 : 0, want ? 1 : 0);
    }

    void end() {
        closeSentence();
        System.out.println(name + ": " + asked + " answers, " + wrong + " wrong");
        if (wrong != 0 || asked == 0) {
            System.exit(1);
        }
    }

    static SolvedChains made(int n, boolean ring, int p) {
        SolvedChains x = new SolvedChains(n);
        x.chain(n, ring);
        x.prime(p);
        return x;
    }

    /** x to the j by p, in the plainest way. */
    static int raised(int x, int j, int p) {
        int all = 1;
        for (int i = 0; i < j; i++) {
            all = all * x % p;
        }
        return all;
    }

    static byte[] bytes(String text) {
        return text.getBytes(StandardCharsets.ISO_8859_1);
    }

    /** Five whole numbers of twenty bytes from a place on; blanks behind the end. */
    static int[] words(byte[] bytes, int from) {
        int[] words = new int[5];
        for (int i = 0; i < 20; i++) {
            int sign = from + i < bytes.length ? bytes[from + i] & 255 : 32;
            words[i / 4] = (words[i / 4] << 8) | sign;
        }
        return words;
    }

    /** Feeds a text to an empty tape and reads it. */
    static int tell(SolvedChains x, String text) {
        feed(x, text);
        return x.text();
    }

    static void feed(SolvedChains x, String text) {
        byte[] bytes = bytes(text);
        int before = x.about(9);
        for (int i = 0; i < bytes.length; i += 20) {
            int[] w = words(bytes, i);
            x.feed(w[0], w[1], w[2], w[3], w[4]);
        }
        x.end(before + bytes.length);
    }
}
