/**
 * Every sentence of 'Terms' II, and of promises 5 to 11 and 13 to 15, that names a bound: the last input that is
 * allowed, the first that isn't, on both sides, and that a refused call has changed nothing.
 */
public final class EdgesOfTextsTest {
    private static final Due DUE = new Due("EdgesOfTextsTest");
    private static final int NONE = SolvedChains.NONE;
    private static final int LEAST = Integer.MIN_VALUE;
    private static final int MOST = Integer.MAX_VALUE;

    public static void main(String[] args) {
        feedInOrder();
        feedToTheFull();
        endOfTheTape();
        textIsTheTape();
        threeHundredBytes();
        emptyText();
        faultOfAText();
        fourTexts();
        faultOfTheLatest();
        blanks();
        tokens();
        namesAndWords();
        fromTheLeft();
        allByP();
        eachOnce();
        cannotStand();
        theEnd();
        numbersAbove();
        openAround();
        secondTime();
        uInTable();
        clauses();
        leastOfOne();
        firstAsTheyCome();
        theText();
        textsOfOthers();
        weights();
        weightsOfOthers();
        equation();
        equationOfOthers();
        table();
        tableOfOthers();
        commute();
        keeps();
        DUE.end();
    }

    private static void is(String call, long got, long want) {
        DUE.is(call, got, want);
    }

    private static void is(String call, boolean got, boolean want) {
        DUE.is(call, got, want);
    }

    private static SolvedChains by(int p) {
        SolvedChains x = new SolvedChains(3);
        x.prime(p);
        return x;
    }

    private static void sound(String text) {
        SolvedChains x = new SolvedChains(7);
        is("text of " + text, Due.tell(x, text), 0);
        is("no fault of " + text, x.fault(0), 0);
        is("no place of " + text, x.fault(1), NONE);
    }

    private static void fault(String text, int why, int place) {
        SolvedChains x = new SolvedChains(7);
        is("text of " + text, Due.tell(x, text), NONE);
        is("fault of " + text, x.fault(0), why);
        is("place of " + text, x.fault(1), place);
        is("texts behind " + text, x.about(5), 0);
    }

    /** Weight b for u 50 by 97, with ETA 2 and D 3. */
    private static void worth(String told, long due) {
        SolvedChains x = by(97);
        x.numbers(2, 3);
        x.by(Due.tell(x, "b " + told + ";"));
        is("fault of " + told, x.fault(0), 0);
        is(told, x.weight(1, 50), Math.floorMod(due, 97));
    }

    private static void feedInOrder() {
        DUE.sentence("5: Twenty bytes come behind the tape, the highest of a first");
        SolvedChains x = by(97);
        // a 12;b 34;c 56;sum ; and then flip 0;  shift  ;   .
        is("feed", x.feed(0x61203132, 0x3b622033, 0x343b6320, 0x35363b73, 0x756d203b), 20);
        is("feed", x.feed(0x666c6970, 0x20303b20, 0x20736869, 0x66742020, 0x3b202020), 40);
        is("about(9)", x.about(9), 40);
        is("text", x.text(), 0);
        x.by(0);
        is("a", x.weight(0, 0), 12);
        is("b", x.weight(1, 0), 34);
        is("c", x.weight(2, 0), 56);
        x.set(0);
        is("played", x.played(0), NONE);
        is("three bonds, LETTER 0 turned and shifted", x.at(2), 3);
        // Each of the twenty places: a byte that is none there is found there.
        for (int place = 0; place < 20; place++) {
            SolvedChains y = by(97);
            int[] w = {0x20202020, 0x20202020, 0x20202020, 0x20202020, 0x20202020};
            w[place / 4] ^= 0xff << (24 - 8 * (place % 4));
            y.feed(w[0], w[1], w[2], w[3], w[4]);
            y.text();
            is("fault of byte " + place, y.fault(0), 1);
            is("place of byte " + place, y.fault(1), place);
        }
    }

    private static void feedToTheFull() {
        DUE.sentence("5: how many it has");
        SolvedChains x = by(97);
        for (int i = 1; i <= 15; i++) {
            is("feed " + i, x.feed(0x20202020, 0x20202020, 0x20202020, 0x20202020, 0x20202020), 20 * i);
            is("about(9)", x.about(9), 20 * i);
        }
        DUE.sentence("5: NONE, and none come, if there would be more than 300");
        is("feed at 300", x.feed(-1, -1, -1, -1, -1), NONE);
        is("about(9)", x.about(9), 300);
        for (int had = 299; had > 280; had--) {
            x.end(had);
            is("feed at " + had, x.feed(-1, -1, -1, -1, -1), NONE);
            is("about(9)", x.about(9), had);
        }
        x.end(280);
        is("feed at 280", x.feed(0x20202020, 0x20202020, 0x20202020, 0x20202020, 0x20202020), 300);
        is("none of those refused has come", x.text(), 0);
        Twin.leaves(DUE, "feed of a full one", Twin::full, y -> y.feed(0, 0, 0, 0, 0), NONE);
        Twin.Made at281 = () -> {
            SolvedChains y = Twin.full();
            y.end(281);
            return y;
        };
        Twin.leaves(DUE, "feed at 281", at281, y -> y.feed(0x73756d3b, 0, 0, 0, 0), NONE);
    }

    private static void endOfTheTape() {
        DUE.sentence("6: The tape has its first n bytes alone: n");
        SolvedChains x = by(97);
        is("end(0) of an empty tape", x.end(0), 0);
        Due.feed(x, "a 1;b 2;c 3;sum;");
        is("end at its length", x.end(16), 16);
        is("all stay", x.about(9), 16);
        is("end(4)", x.end(4), 4);
        is("about(9)", x.about(9), 4);
        Due.feed(x, "c 9;");
        is("the next come behind the first n", x.about(9), 8);
        is("text", x.text(), 0);
        x.by(0);
        is("a of the first", x.weight(0, 5), 1);
        is("b is gone", x.weight(1, 5), 5);
        is("c of the next", x.weight(2, 5), 9);
        Due.feed(x, "sum");
        is("end(0)", x.end(0), 0);
        is("no bytes", x.about(9), 0);
        is("an empty text", x.text(), 1);
        DUE.sentence("6: NONE, and nothing is done, if it has not so many, or n is below 0");
        is("end(1) of an empty tape", x.end(1), NONE);
        Due.feed(x, "sum;");
        is("end(5) of four", x.end(5), NONE);
        is("end(20) of four, though twenty were fed", x.end(20), NONE);
        is("about(9)", x.about(9), 4);
        is("end(-1)", x.end(-1), NONE);
        is("about(9)", x.about(9), 4);
        for (int wrong : new int[] {301, 302, -1, -2, LEAST, MOST}) {
            Twin.leavesAll(DUE, "end(" + wrong + ")", y -> y.end(wrong), NONE);
        }
        Twin.leaves(DUE, "end(14) of 13", Twin::ring, y -> y.end(14), NONE);
        Twin.leaves(DUE, "end(4) of 3", Twin::open, y -> y.end(4), NONE);
        Twin.leaves(DUE, "end(1) of none", Twin::fresh, y -> y.end(1), NONE);
    }

    private static void textIsTheTape() {
        DUE.sentence("7: The tape (empty then) is a TEXT: its number");
        SolvedChains x = by(97);
        for (int i = 0; i < 4; i++) {
            Due.feed(x, "a " + (i + 10) + ";");
            is("text " + i, x.text(), i);
            is("empty then", x.about(9), 0);
            is("TEXTS", x.about(5), i + 1);
        }
        for (int i = 0; i < 4; i++) {
            x.by(i);
            is("each is its own", x.weight(0, 0), i + 10);
        }
    }

    private static void threeHundredBytes() {
        DUE.sentence("II: TEXTS of up to 300 bytes");
        sound("shift" + " ".repeat(294) + ";");
        fault("shift" + " ".repeat(295), 1, 300);
        fault(" ".repeat(299) + "#", 1, 299);
        fault("shift" + " ".repeat(294), 1, 299);
        sound(" ".repeat(300));
        sound("a " + "1+".repeat(148) + "1;");
        worth("1+".repeat(147) + "1", 148);
        // One token of 300 bytes, and 300 tokens of one.
        fault("z".repeat(300), 1, 0);
        fault("0".repeat(300), 1, 0);
        sound("a " + "0".repeat(297) + ";");
        fault(";".repeat(300), 1, 0);
        sound("a0" + "+1".repeat(148) + ";\n");
    }

    private static void emptyText() {
        DUE.sentence("II: {CLAUSE}: none at all is a TEXT as well");
        SolvedChains x = by(97);
        is("text of an empty tape", x.text(), 0);
        is("without a fault", x.fault(0), 0);
        is("without a place", x.fault(1), NONE);
        is("it is a TEXT", x.about(5), 1);
        is("it can be THE TEXT", x.by(0), true);
        is("a without", x.weight(0, 5), 6);
        is("b without", x.weight(1, 5), 5);
        is("c without", x.weight(2, 5), 1);
        x.set(3);
        x.act(0, 0);
        x.undo();
        is("it can be PLAYED", x.played(0), NONE);
        is("nothing came of it", x.at(3), 1);
        is("no ACT came", x.about(8), 1);
        sound(" ");
        sound("\n");
        sound(" \n\n  ");
    }

    private static void faultOfAText() {
        DUE.sentence("7: NONE: it has a FAULT");
        SolvedChains x = by(97);
        Due.tell(x, "a 1;");
        Due.feed(x, "a 2;b");
        is("text", x.text(), NONE);
        is("it is no TEXT", x.about(5), 1);
        is("the tape is empty then", x.about(9), 0);
        is("by(1)", x.by(1), false);
        is("played(1)", x.played(1), -2);
        x.by(0);
        is("the TEXT ahead of it stays", x.weight(0, 0), 1);
        is("the next has its number", Due.tell(x, "b 3;"), 1);
        x.by(1);
        is("and nothing of it: a", x.weight(0, 0), 1);
        is("and nothing of it: b", x.weight(1, 0), 3);
        DUE.sentence("7: of a text with a FAULT nothing is left");
        x = by(97);
        is("a long one", Due.tell(x, "sum;".repeat(20) + "a 5;b 6;c 7;flip 9;"), NONE);
        is("the next", Due.tell(x, "shift;"), 0);
        x.set(1);
        is("played", x.played(0), NONE);
        is("one ACT", x.about(7), 1);
        is("shifted", x.at(2), 1);
        x.by(0);
        is("no a", x.weight(0, 0), 1);
        is("no c", x.weight(2, 0), 1);
        is("a faulty one", Due.tell(x, "sum;".repeat(31)), NONE);
        is("thirty behind it", Due.tell(x, "a 1;" + "sum;".repeat(29)), 1);
        x.back();
        is("thirty in the place of another", Due.tell(x, "c 1;" + "sum;".repeat(29)), 0);
        is("thirty in the place of another", Due.tell(x, "sum;".repeat(29) + "a 1;"), 1);
    }

    private static void fourTexts() {
        DUE.sentence("7: NONE: (the tape stays) there are 4");
        SolvedChains x = by(97);
        for (int i = 0; i < 3; i++) {
            Due.tell(x, "a " + i + ";");
        }
        is("the fourth", Due.tell(x, "a 3;"), 3);
        Due.feed(x, "flip 2;");
        is("the fifth", x.text(), NONE);
        is("the tape stays", x.about(9), 7);
        is("there are 4", x.about(5), 4);
        is("asked again", x.text(), NONE);
        is("the tape stays", x.about(9), 7);
        x.back();
        is("with room again it is read", x.text(), 0);
        x.set(0);
        is("as it was fed", x.played(0), NONE);
        is("LETTER 2", x.at(4), 1);
        is("an empty one: ", Due.tell(x, ""), 1);
        Twin.leaves(DUE, "a fifth of a full one, faulty", Twin::full, y -> y.text(), NONE);
        Twin.Made sound = () -> {
            SolvedChains y = Twin.full();
            y.end(116);
            return y;
        };
        Twin.leaves(DUE, "a fifth of a full one, sound", sound, y -> y.text(), NONE);
        Twin.Made empty = () -> {
            SolvedChains y = Twin.full();
            y.end(0);
            return y;
        };
        Twin.leaves(DUE, "a fifth of a full one, empty", empty, y -> y.text(), NONE);
    }

    private static void faultOfTheLatest() {
        DUE.sentence("8: NONE ahead of any");
        SolvedChains x = by(97);
        for (int what : new int[] {0, 1, 2, -1, LEAST, MOST}) {
            is("fault(" + what + ")", x.fault(what), NONE);
        }
        Due.feed(x, "sum");
        is("fed, not read", x.fault(0), NONE);
        DUE.sentence("8: Of the latest text that was read: its FAULT, its place");
        x.text();
        is("fault(0)", x.fault(0), 1);
        is("fault(1)", x.fault(1), 3);
        Due.tell(x, "a 1;a 2;");
        is("of the latest", x.fault(0), 4);
        is("of the latest", x.fault(1), 4);
        Due.feed(x, "#");
        is("one that isn't read yet", x.fault(0), 4);
        x.end(0);
        DUE.sentence("8: 0 its FAULT (0 without), 1 its place (NONE without)");
        Due.tell(x, "a 1;");
        is("fault(0)", x.fault(0), 0);
        is("fault(1)", x.fault(1), NONE);
        DUE.sentence("8: of the latest that was read: a fifth isn't");
        SolvedChains y = Twin.full();
        is("fault(0) of the fourth", y.fault(0), 0);
        y.text();
        is("fault(0) still", y.fault(0), 0);
        is("fault(1) still", y.fault(1), NONE);
        DUE.sentence("8: NONE for others");
        Due.tell(x, "sum");
        for (int what : new int[] {2, -1, -2, 3, LEAST, MOST}) {
            is("fault(" + what + ")", x.fault(what), NONE);
            Twin.leavesAll(DUE, "fault(" + what + ")", z -> z.fault(what), NONE);
        }
    }

    private static void blanks() {
        DUE.sentence("II: blanks (32, 10)");
        sound(" \n a\n\n1 \n; \n");
        for (int sign = 0; sign < 256; sign++) {
            String one = String.valueOf((char) sign);
            boolean letter = (sign >= 'a' && sign <= 'z') || (sign >= 'A' && sign <= 'Z');
            if (sign == 32 || sign == 10) {
                sound("sum" + one + ";");
            } else if (sign == ';') {
                fault("sum;;", 1, 4);
            } else {
                fault("sum" + one + ";", 1, letter ? 0 : 3);
            }
        }
    }

    private static void tokens() {
        DUE.sentence("II: letters a .. z, A .. Z one behind the other (one TOKEN)");
        fault("su m;", 1, 0);
        fault("sum sum;", 1, 4);
        fault("shiftsum;", 1, 0);
        fault("a etad;", 1, 2);
        fault("a eta d;", 1, 6);
        fault("a et a;", 1, 2);
        // The letters at both ends of both rows are letters; their neighbours aren't.
        for (String letter : new String[] {"a", "z", "A", "Z"}) {
            fault("a u" + letter + ";", 1, 2);
            fault("a " + letter + "u;", 1, 2);
        }
        for (String other : new String[] {"`", "{", "@", "[", "_", "\u00e4", "\u00c4", "\u00ff"}) {
            fault("a u" + other + ";", 1, 3);
            fault("a " + other + "u;", 1, 2);
        }
        DUE.sentence("II: digits likewise (one TOKEN)");
        worth("12", 12);
        worth("90", 90);
        worth("1234/1234", 1);
        fault("a 1 2;", 1, 4);
        fault("a 1:;", 1, 3);
        worth("6/3", 2);
        sound("a1;b2;flip3;table4;c5;");
        fault("a 1u;", 1, 3);
        fault("a u1;", 1, 3);
        fault("flip1sum;", 1, 5);
    }

    private static void namesAndWords() {
        DUE.sentence("II: CLAUSE: a, b, c, shift, flip, sum, table");
        sound("a 1;b 1;c 1;shift;flip 1;sum;table 1;");
        for (String word : new String[] {"A 1;", "B 1;", "C 1;", "Shift;", "SHIFT;", "Flip 1;", "Sum;", "suM;",
            "Table 1;", "tablE 1;", "shif;", "shifts;", "fli 1;", "flips 1;", "su;", "sums;", "tabl 1;", "tables 1;",
            "u 1;", "d 1;", "eta 1;", "e 1;", "x;", "aa 1;", "ab 1;"}) {
            fault(word, 1, 0);
        }
        fault("shift 1;", 1, 6);
        fault("sum 1;", 1, 4);
        fault("shift", 1, 5);
        fault("shift sum;", 1, 6);
        fault(";", 1, 0);
        fault("sum;;", 1, 4);
        DUE.sentence("II: NAMES: u, eta, d");
        worth("u", 50);
        worth("eta", 2);
        worth("d", 3);
        for (String name : new String[] {"U", "Eta", "ETA", "etA", "D", "et", "etaa", "uu", "dd", "a", "b", "c", "e",
            "sum", "shift", "flip", "table"}) {
            fault("a " + name + ";", 1, 2);
        }
        DUE.sentence("II: flip NUMBER");
        sound("flip 0;flip 6;");
        for (String other : new String[] {"u", "eta", "d", "(1)", "-1", "+1", ";", "sum"}) {
            fault("flip " + other + ";", 1, 5);
        }
        fault("flip 1+1;", 1, 6);
        fault("flip 1 1;", 1, 7);
        DUE.sentence("II: ONE: NUMBER, NAME, ( EXPR ), - ONE");
        worth("(5)", 5);
        worth("(5+6*7)", 47);
        worth("-5", -5);
        worth("--5", 5);
        worth("-(5)", -5);
        worth("-u", -50);
        fault("a +1;", 1, 2);
        fault("a *1;", 1, 2);
        fault("a /1;", 1, 2);
        fault("a ();", 1, 3);
        fault("a (1;", 1, 4);
        fault("a 1);", 1, 3);
        fault("a (1));", 1, 5);
        fault("a -;", 1, 3);
        fault("a ;", 1, 2);
    }

    private static void fromTheLeft() {
        DUE.sentence("II: From the left");
        worth("20-5-3", 12);
        worth("20-(5-3)", 18);
        worth("20-5+3", 18);
        worth("64/4/2", 8);
        worth("64/(4/2)", 32);
        worth("64/4*2", 32);
        worth("64/(4*2)", 8);
        worth("6*4/3", 8);
        DUE.sentence("II: EXPR of PRODUCTS, PRODUCT of ONES");
        worth("2+3*4", 14);
        worth("2*3+4", 10);
        worth("2-3*4", -10);
        worth("20-8/4", 18);
        worth("(2+3)*4", 20);
        worth("-2*3", -6);
        worth("-2+3", 1);
        worth("-(2+3)", -5);
        worth("2*-3", -6);
        worth("2--3", 5);
        worth("8/-2", -4);
        worth("1/0*5+7", 7);
        worth("-0", 0);
    }

    private static void allByP() {
        DUE.sentence("II: all by P");
        worth("96+1", 0);
        worth("97", 0);
        worth("98", 1);
        worth("0-1", 96);
        worth("96*96", 1);
        worth("9999", 8);
        worth("9999*9999", 64);
        worth("9999*9999*9999*9999*9999*9999", 8L * 8 * 8 * 8 * 8 * 8);
        SolvedChains x = by(97);
        x.numbers(20, 30);
        x.by(Due.tell(x, "a 10+u; b eta; c d;"));
        is("10 + 96 by 97", x.weight(0, 96), 9);
        x.prime(7);
        is("10 + 6 by 7", x.weight(0, 6), 2);
        is("eta by 7", x.weight(1, 0), 6);
        is("d by 7", x.weight(2, 0), 2);
        x.numbers(1, 5);
        is("eta told anew", x.weight(1, 0), 1);
        is("d told anew", x.weight(2, 0), 5);
    }

    private static void eachOnce() {
        DUE.sentence("II: a, b, c (each once); shift, flip, sum, table more often");
        sound("shift;shift;flip 1;flip 1;sum;sum;table 1;table 1;");
        sound("c 1;b 1;a 1;");
        fault("a 1;a 1;", 4, 4);
        SolvedChains x = by(97);
        is("once in each TEXT", Due.tell(x, "a 1;b 1;c 1;"), 0);
        is("once in each TEXT", Due.tell(x, "a 2;b 2;c 2;"), 1);
    }

    private static void cannotStand() {
        DUE.sentence("FAULT 1: it can't stand there, at the TOKEN's first byte");
        fault("  1;", 1, 2);
        fault("\n\nu;", 1, 2);
        fault("sum;  flop;", 1, 6);
        fault("a 1  eta;", 1, 5);
        fault("a (1  2345);", 1, 6);
        fault("table 1 sum;", 1, 8);
        fault("a 1+ * 2;", 1, 5);
        fault("flip\n+;", 1, 5);
        fault("sum;)", 1, 4);
        DUE.sentence("FAULT 1: or is none");
        fault("sum; #", 1, 5);
        fault("a 1 & 2;", 1, 4);
        fault("a 1=;", 1, 3);
        fault("a \u00ff;", 1, 2);
        fault("\0", 1, 0);
        fault("sum; foo", 1, 5);
        fault("a 1.0;", 1, 3);
    }

    private static void theEnd() {
        DUE.sentence("FAULTS: of the end at the length");
        for (String text : new String[] {"a", "a 1", "a 1+", "a 1*", "a -", "a (", "a (1", "a (1)", "b eta", "flip",
            "flip 1", "table", "table 1", "sum", "shift", "sum;sum", "sum;a"}) {
            fault(text, 1, text.length());
            fault(text + " ", 1, text.length() + 1);
            fault(text + " \n\n", 1, text.length() + 3);
            fault(text + " ".repeat(300 - text.length()), 1, 300);
        }
    }

    private static void numbersAbove() {
        DUE.sentence("FAULT 2: a NUMBER above 9999");
        worth("9999", 9999);
        worth("0", 0);
        worth("09999", 9999);
        worth("00000000000000000000009999", 9999);
        for (String number : new String[] {"10000", "10001", "99999", "010000", "4294967296", "4294977295",
            "18446744073709551616", "18446744073709551617", "1" + "0".repeat(200)}) {
            fault("a " + number + ";", 2, 2);
            fault("b 1+(2*-" + number + ");", 2, 8);
            fault("c 1; table " + number + ";", 2, 11);
        }
        sound("table 9999;");
        DUE.sentence("FAULT 2: of flip above 6");
        for (int letter = 0; letter <= 6; letter++) {
            sound("flip " + letter + ";");
        }
        sound("flip 0006;");
        for (String letter : new String[] {"7", "8", "10", "007", "9999", "10000", "4294967296", "60"}) {
            fault("flip " + letter + ";", 2, 5);
            fault("flip  " + letter, 2, 6);
        }
    }

    private static void openAround() {
        DUE.sentence("FAULT 3: the 9th of ( and - (of one ONE) that are open around one another (at it)");
        String[] eight = {"((((((((", "--------", "-(-(-(-(", "(-(-(-(-", "((((----", "----(((("};
        for (String open : eight) {
            String closed = ")".repeat((int) open.chars().filter(c -> c == '(').count());
            sound("a " + open + "1" + closed + ";");
            sound("table " + open + "d" + closed + ";");
            fault("a " + open + "(1" + closed + ");", 3, 10);
            fault("a " + open + "-1" + closed + ";", 3, 10);
            fault("table " + open + " (", 3, 15);
            fault("table " + open + " -", 3, 15);
            fault("a " + open, 1, 10);
        }
        DUE.sentence("FAULT 3: that are open: one that is closed doesn't count");
        sound("a (((((((" + "(1)+(2)-(3)*(4)" + ")))))));");
        sound("a ((((((((1))))))))*((((((((1))))))));");
        sound("a --------1+--------1*--------1;");
        sound("a (((((((-1+-2--3*-4)))))));");
        sound("a -1*(((((((-1)))))));");
        sound("a " + "(1)+".repeat(30) + "(1);");
        fault("a (((((((-(1)))))))));", 3, 10);
        fault("a 1+-2*" + "(".repeat(9), 3, 15);
        DUE.sentence("FAULT 3: - of one ONE: one between PRODUCTS doesn't count");
        sound("a 1" + "-1".repeat(40) + ";");
        sound("a ((((((((1-1-1))))))));");
        sound("a ((((((((1-2)-3)-4)-5)-6)-7)-8)-9);");
        fault("a ((((((((1--1))))))));", 3, 12);
        worth("((((((((9-1-1))))))))", 7);
        worth("--------5", 5);
        worth("-------5", -5);
    }

    private static void secondTime() {
        DUE.sentence("FAULT 4: a, b, c for the second time (at it)");
        for (String head : new String[] {"a", "b", "c"}) {
            sound(head + " 1;");
            fault(head + " 1;" + head + " 1;", 4, 4);
            fault(head + " 1;sum; " + head, 4, 9);
            fault(head + " 1;" + head + ";", 4, 4);
        }
        fault("a 1;b 1;c 1;b 1;", 4, 12);
        fault("a 1;sums;a 1;", 1, 4);
    }

    private static void uInTable() {
        DUE.sentence("FAULT 5: u in table (at it)");
        fault("table u;", 5, 6);
        fault("table  1+u;", 5, 9);
        fault("table -(2*u);", 5, 10);
        fault("sum;table eta/u", 5, 14);
        fault("a u;table d;table u;", 5, 18);
        sound("table eta+d-1;");
        sound("table 1;a u;");
        sound("a u;table 1;b u;table 2;c u;");
    }

    private static void clauses() {
        DUE.sentence("II: 30 CLAUSES at most");
        sound("sum;".repeat(30));
        sound("sum;".repeat(30) + " \n ");
        sound("a 1;b 2;c 3;" + "shift;".repeat(27));
        sound("flip 1;".repeat(15) + "table 1;".repeat(15));
        SolvedChains x = new SolvedChains(2);
        Due.tell(x, "shift;".repeat(29) + "flip 0;");
        x.set(0);
        is("the thirtieth is PLAYED", x.played(0), NONE);
        is("turned", x.at(1), 1);
        DUE.sentence("FAULT 6: the 31st CLAUSE (at its first TOKEN)");
        fault("sum;".repeat(31), 6, 120);
        fault("sum;".repeat(32), 6, 120);
        fault("sum;".repeat(30) + "\n shift", 6, 122);
        fault("sum;".repeat(30) + "flip 7;", 6, 120);
        fault("sum;".repeat(30) + "table u;", 6, 120);
        fault("sum;".repeat(30) + "a 1;", 6, 120);
        fault("a 1;b 1;" + "sum;".repeat(28) + "c", 6, 120);
        fault("sum;".repeat(30) + "sum", 6, 120);
    }

    private static void leastOfOne() {
        DUE.sentence("FAULTS: of one the least");
        // 1 and 6: no CLAUSE begins so.
        fault("sum;".repeat(30) + "foo", 1, 120);
        fault("sum;".repeat(30) + "u", 1, 120);
        fault("sum;".repeat(30) + "#", 1, 120);
        fault("sum;".repeat(30) + ";", 1, 120);
        // 4 and 6.
        for (String head : new String[] {"a", "b", "c"}) {
            fault(head + " 1;" + "sum;".repeat(29) + head + " 1;", 4, 120);
        }
        // 1 and 2.
        fault("10000", 1, 0);
        fault("a 1 10000;", 1, 4);
        fault("sum 10000;", 1, 4);
        fault("flip 1 10000;", 1, 7);
        fault("a (1) 10000;", 1, 6);
        // 1 and 3: ( can't stand behind a ONE.
        fault("a ((((((((1(;", 1, 11);
        // 1 and 4: a can't stand within a CLAUSE.
        fault("a 1;b a;", 1, 6);
        // 1 and 5: u can't stand behind a ONE.
        fault("table 1 u;", 1, 8);
        fault("table u;", 5, 6);
        // 1, 2 and 6.
        fault("sum;".repeat(30) + "10000", 1, 120);
    }

    private static void firstAsTheyCome() {
        DUE.sentence("FAULTS: the first as TOKENS are come to");
        fault("a 10000;#", 2, 2);
        fault("# a 10000;", 1, 0);
        fault("a 1;a 10000;", 4, 4);
        fault("a 10000;a 1;", 2, 2);
        fault("table u+10000;", 5, 6);
        fault("table 10000+u;", 2, 6);
        fault("a (((((((((10000;", 3, 10);
        fault("a ((((((((10000(;", 2, 10);
        fault("flip 9;" + "sum;".repeat(31), 2, 5);
        fault("sum;".repeat(30) + "flip 9;", 6, 120);
        fault("a ((1;#", 1, 5);
    }

    private static void theText() {
        DUE.sentence("9: THE TEXT: true");
        SolvedChains x = by(97);
        for (int i = 0; i < 4; i++) {
            Due.tell(x, "c " + (20 + i) + ";");
        }
        for (int i = 3; i >= 0; i--) {
            is("by(" + i + ")", x.by(i), true);
            is("about(6)", x.about(6), i);
            is("its weight", x.weight(2, 0), 20 + i);
        }
        DUE.sentence("9: NONE: none");
        is("by(NONE)", x.by(NONE), true);
        is("about(6)", x.about(6), NONE);
        is("without", x.weight(2, 0), 1);
        is("by(NONE) again", x.by(NONE), true);
        DUE.sentence("9: another P, ETA, D or CHAIN leaves THE TEXT");
        x.by(2);
        x.prime(11);
        x.numbers(3, 3);
        x.chain(5, false);
        x.set(1);
        is("about(6)", x.about(6), 2);
        is("22 by 11", x.weight(2, 0), 0);
    }

    private static void textsOfOthers() {
        DUE.sentence("9: False for others");
        SolvedChains x = by(97);
        is("by(0) without TEXTS", x.by(0), false);
        for (int i = 0; i < 4; i++) {
            Due.tell(x, "sum;");
            is("the last", x.by(i), true);
            is("the next", x.by(i + 1), false);
            is("THE TEXT stays", x.about(6), i);
        }
        for (int wrong : new int[] {4, 5, -2, -3, LEAST, MOST}) {
            Twin.leavesAll(DUE, "by(" + wrong + ")", y -> Twin.bit(y.by(wrong)), 0);
        }
        Twin.leaves(DUE, "by(3) of three", Twin::ring, y -> Twin.bit(y.by(3)), 0);
        Twin.leaves(DUE, "by(1) of one", Twin::open, y -> Twin.bit(y.by(1)), 0);
        Twin.leaves(DUE, "by(0) of none", Twin::fresh, y -> Twin.bit(y.by(0)), 0);
    }

    private static void weights(String told, int a, int b, int c) {
        SolvedChains x = by(97);
        x.numbers(30, 7);
        x.by(Due.tell(x, told));
        is(told + " a", x.weight(0, 90), a);
        is(told + " b", x.weight(1, 90), b);
        is(told + " c", x.weight(2, 90), c);
    }

    private static void weights() {
        DUE.sentence("II: a (without: u + eta), b (without: u), c (without: eta)");
        weights("", 23, 90, 30);
        weights("sum;", 23, 90, 30);
        weights("a u+1;", 91, 90, 30);
        weights("b u+2;", 23, 92, 30);
        weights("c u+3;", 23, 90, 93);
        weights("c 3;a 1;", 1, 90, 3);
        weights("a 0;b 0;c 0;", 0, 0, 0);
        SolvedChains x = by(97);
        x.numbers(96, 0);
        is("u + eta by P", x.weight(0, 1), 0);
        is("u + eta by P", x.weight(0, 96), 95);
    }

    private static void weightsOfOthers() {
        DUE.sentence("10: A WEIGHT for u (0 .. P - 1): 0 a, 1 b, 2 c");
        for (int p : new int[] {5, 13, 97}) {
            SolvedChains x = by(p);
            x.numbers(2, 0);
            is("a for 0", x.weight(0, 0), 2);
            is("b for 0", x.weight(1, 0), 0);
            is("c for 0", x.weight(2, 0), 2);
            is("a for P - 1", x.weight(0, p - 1), 1);
            is("b for P - 1", x.weight(1, p - 1), p - 1);
            is("c for P - 1", x.weight(2, p - 1), 2);
        }
        DUE.sentence("10: NONE for others");
        for (int p : new int[] {5, 13, 97}) {
            SolvedChains x = by(p);
            for (int wrong : new int[] {p, -1, p + 1, LEAST, MOST}) {
                for (int which = 0; which < 3; which++) {
                    is("weight(" + which + ", " + wrong + ")", x.weight(which, wrong), NONE);
                }
            }
            for (int wrong : new int[] {3, -1, 4, LEAST, MOST}) {
                is("weight(" + wrong + ", 1)", x.weight(wrong, 1), NONE);
            }
        }
        Twin.leavesAll(DUE, "weight(3, 0)", x -> x.weight(3, 0), NONE);
        Twin.leavesAll(DUE, "weight(0, 97)", x -> x.weight(0, 97), NONE);
        Twin.leavesAll(DUE, "weight(0, -1)", x -> x.weight(0, -1), NONE);
    }

    private static void asks(SolvedChains x, String told, int held, int u, int v) {
        is(told + ": how many", x.equation(0), held);
        is(told + ": the first u", x.equation(1), u);
        is(told + ": the first v", x.equation(2), v);
    }

    private static void equation() {
        DUE.sentence("11: 0 for how many u, v it holds; all");
        for (int p : new int[] {5, 13, 97}) {
            SolvedChains x = by(p);
            x.numbers(p - 1, 0);
            asks(x, "without a text by " + p, p * p, NONE, NONE);
        }
        DUE.sentence("11: none at all");
        SolvedChains x = by(5);
        x.by(Due.tell(x, "a 1; b 1; c 1;"));
        asks(x, "all 1", 0, 0, 0);
        DUE.sentence("11: 1, 2: the first (by u, then v) for which it doesn't");
        x.back();
        x.prime(5);
        // Without b it asks a(v) c(u) a(u-v) = c(v) a(u) c(u-v) alone.
        x.by(Due.tell(x, "a u; b 0; c 1;"));
        asks(x, "v (u - v) = u", 4, 0, 1);
        x.back();
        x.prime(5);
        // v u^2 (u - v) = v^2 u (u - v)^2: where u, v or u - v is 0, or where u = v (u - v).
        x.by(Due.tell(x, "a u; b 0; c u*u;"));
        int held = 0;
        int first = -1;
        for (int k = 0; k < 25; k++) {
            int u = k / 5;
            int v = k % 5;
            boolean holds = Math.floorMod(v * u * (u - v) * (u - v * (u - v)), 5) == 0;
            held += holds ? 1 : 0;
            first = !holds && first < 0 ? k : first;
        }
        asks(x, "v u (u - v) (u - v (u - v))", held, first / 5, first % 5);
        DUE.sentence("11: THE EQUATION is by the letters' weights, whatever THE CHAIN");
        SolvedChains y = by(5);
        y.by(Due.tell(y, "a u; b 0; c 1;"));
        y.chain(7, false);
        asks(y, "open", 4, 0, 1);
    }

    private static void equationOfOthers() {
        DUE.sentence("11: NONE: none, and for others");
        SolvedChains x = by(5);
        is("no first u", x.equation(1), NONE);
        is("no first v", x.equation(2), NONE);
        for (int wrong : new int[] {3, -1, 4, -2, LEAST, MOST}) {
            is("equation(" + wrong + ")", x.equation(wrong), NONE);
            Twin.leavesAll(DUE, "equation(" + wrong + ")", y -> y.equation(wrong), NONE);
        }
        x.by(Due.tell(x, "a 1; b 1; c 1;"));
        is("equation(3) where it doesn't hold", x.equation(3), NONE);
        is("equation(-1) where it doesn't hold", x.equation(-1), NONE);
        is("a first u", x.equation(1), 0);
        x.by(NONE);
        is("no first u again", x.equation(1), NONE);
        is("no first v again", x.equation(2), NONE);
        Twin.leaves(DUE, "equation(0)", Twin::fresh, y -> y.equation(0), 169);
    }

    private static void table() {
        DUE.sentence("II: e goes by LETTERS 0, 1, .., n - 1 (in that order)");
        SolvedChains x = by(97);
        x.by(Due.tell(x, "a 2; b 3; c 5;"));
        // e down takes what LETTER 0 has, gives it to LETTER 1, passes LETTER 2 alike.
        is("0 to 1", x.table(0, 1, 2), 5 * 5 * 2);
        // e up gives to LETTER 0, takes from LETTER 1, passes LETTER 2 unlike.
        is("1 to 0", x.table(0, 2, 1), 5 * 5 * 3);
        is("2 to 0, the last", x.table(0, 4, 1), 5 * 2 * 5);
        DUE.sentence("II: with e at last as at first, both ways of e together");
        is("all down", x.table(0, 0, 0), 8 + 27);
        is("all up", x.table(0, 7, 7), 8 + 27);
        is("e can't keep what it took", x.table(0, 1, 0), 0);
        is("e can't give what it hadn't", x.table(0, 0, 1), 0);
        DUE.sentence("II: (It is a ring's, whatever THE CHAIN.)");
        x.chain(3, false);
        is("0 to 1", x.table(0, 1, 2), 5 * 5 * 2);
        is("2 to 0", x.table(0, 4, 1), 5 * 2 * 5);
        for (int n = 2; n <= 7; n++) {
            x.chain(n, n % 2 == 0);
            long all = 1;
            long unlike = 1;
            for (int i = 0; i < n; i++) {
                all = all * 2 % 97;
                unlike = unlike * 3 % 97;
            }
            is("all down of " + n, x.table(96, 0, 0), (all + unlike) % 97);
            is("all up of " + n, x.table(0, (1 << n) - 1, (1 << n) - 1), (all + unlike) % 97);
        }
    }

    private static void tableOfOthers() {
        DUE.sentence("13: NONE for others");
        for (int n = 2; n <= 7; n++) {
            for (int p : new int[] {5, 97}) {
                SolvedChains x = by(p);
                x.chain(n, true);
                int last = (1 << n) - 1;
                is("u 0", x.table(0, last, last), 1);
                is("u P - 1", x.table(p - 1, last, last), n % 2 == 0 ? 1 : p - 1);
                for (int wrong : new int[] {p, -1, p + 1, LEAST, MOST}) {
                    is("u " + wrong, x.table(wrong, 0, 0), NONE);
                }
                for (int wrong : new int[] {last + 1, -1, LEAST, MOST}) {
                    is("x " + wrong, x.table(0, wrong, 0), NONE);
                    is("y " + wrong, x.table(0, 0, wrong), NONE);
                    is("both " + wrong, x.table(0, wrong, wrong), NONE);
                }
            }
        }
        Twin.leavesAll(DUE, "table(97, 0, 0)", x -> x.table(97, 0, 0), NONE);
        Twin.leavesAll(DUE, "table(0, 128, 0)", x -> x.table(0, 128, 0), NONE);
        Twin.leavesAll(DUE, "table(0, 0, -1)", x -> x.table(0, 0, -1), NONE);
        Twin.leavesAll(DUE, "table(0, 1, 0)", x -> x.table(0, 1, 0), 0);
    }

    private static void commute() {
        DUE.sentence("14: Whether TABLES for u and v commute");
        for (int p : new int[] {5, 13, 97}) {
            SolvedChains x = by(p);
            x.chain(4, true);
            is("0, P - 1", x.commute(0, p - 1), true);
            is("P - 1, 0", x.commute(p - 1, 0), true);
            x.by(Due.tell(x, "a u; b 1; c 1;"));
            is("1, 2", x.commute(1, 2), false);
            is("2, 1", x.commute(2, 1), false);
            is("a TABLE with itself", x.commute(2, 2), true);
            is("0 with itself", x.commute(0, 0), true);
            is("P - 1 with itself", x.commute(p - 1, p - 1), true);
            DUE.sentence("14: False for others");
            for (int wrong : new int[] {p, -1, p + 1, LEAST, MOST}) {
                is("commute(" + wrong + ", " + wrong + ")", x.commute(wrong, wrong), false);
                is("commute(0, " + wrong + ")", x.commute(0, wrong), false);
                is("commute(" + wrong + ", 0)", x.commute(wrong, 0), false);
            }
            x.by(NONE);
            for (int wrong : new int[] {p, -1, LEAST, MOST}) {
                is("commute(" + wrong + ", " + wrong + ")", x.commute(wrong, wrong), false);
                is("commute(1, " + wrong + ")", x.commute(1, wrong), false);
                is("commute(" + wrong + ", 1)", x.commute(wrong, 1), false);
            }
            DUE.sentence("14: Whether TABLES for u and v commute");
            x.chain(4, false);
            is("open ends don't matter", x.commute(1, 2), true);
        }
        for (int n = 2; n <= 7; n++) {
            SolvedChains x = by(13);
            x.chain(n, true);
            is("without a text, of " + n, x.commute(2, 5), true);
            x.by(Due.tell(x, "a u; b 1; c 1;"));
            // Below four letters one is up or down alone: TABLES are alike all round, and such ones commute.
            is("with one that isn't solved, of " + n, x.commute(1, 2), n < 4);
        }
        DUE.sentence("14: asked, it changes nothing");
        Twin.leavesAll(DUE, "commute(97, 0)", x -> Twin.bit(x.commute(97, 0)), 0);
        Twin.leavesAll(DUE, "commute(0, -1)", x -> Twin.bit(x.commute(0, -1)), 0);
        Twin.leavesAll(DUE, "commute(1, 1)", x -> Twin.bit(x.commute(1, 1)), 1);
    }

    private static void keeps() {
        DUE.sentence("15: Whether THE TABLE for u and THE SUM commute");
        for (int p : new int[] {5, 13, 97}) {
            SolvedChains x = by(p);
            x.chain(5, true);
            is("0", x.keeps(0), true);
            is("P - 1", x.keeps(p - 1), true);
            x.numbers(1, 0);
            is("another D", x.keeps(2), false);
            is("another D, but u 0 is SHIFT", x.keeps(0), true);
            x.numbers(1, 1);
            x.chain(5, false);
            is("open ends", x.keeps(0), false);
            x.chain(5, true);
            DUE.sentence("15: False for others");
            for (int wrong : new int[] {p, -1, p + 1, -2, LEAST, MOST}) {
                is("keeps(" + wrong + ")", x.keeps(wrong), false);
            }
            DUE.sentence("15: Whether THE TABLE for u and THE SUM commute");
        }
        for (int n = 2; n <= 7; n++) {
            SolvedChains x = by(13);
            x.chain(n, true);
            is("ring of " + n, x.keeps(5), true);
            x.chain(n, false);
            is("open of " + n, x.keeps(5), n == 2);
        }
        Twin.leavesAll(DUE, "keeps(97)", x -> Twin.bit(x.keeps(97)), 0);
        Twin.leavesAll(DUE, "keeps(-1)", x -> Twin.bit(x.keeps(-1)), 0);
    }
}
