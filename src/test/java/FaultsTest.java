/** The language of the texts: what is a text, and each fault with the place where it is told. */
public final class FaultsTest {
    private static final Due DUE = new Due("FaultsTest");

    public static void main(String[] args) {
        sound();
        cannotStand();
        isNone();
        atTheEnd();
        numbersTooLarge();
        openTooDeep();
        toldTwice();
        uInTable();
        tooManyClauses();
        theLeastOfOne();
        DUE.end();
    }

    private static void sound(String text) {
        SolvedChains x = new SolvedChains(3);
        DUE.is("text of " + text, Due.tell(x, text), 0);
        DUE.is("fault(0) of " + text, x.fault(0), 0);
        DUE.is("fault(1) of " + text, x.fault(1), SolvedChains.NONE);
        DUE.is("texts with " + text, x.about(5), 1);
    }

    private static void fault(String text, int why, int place) {
        SolvedChains x = new SolvedChains(3);
        DUE.is("text of " + text, Due.tell(x, text), SolvedChains.NONE);
        DUE.is("fault(0) of " + text, x.fault(0), why);
        DUE.is("fault(1) of " + text, x.fault(1), place);
        DUE.is("texts with " + text, x.about(5), 0);
        DUE.is("tape behind " + text, x.about(9), 0);
    }

    private static String times(String one, int many) {
        return one.repeat(many);
    }

    private static void sound() {
        sound("");
        sound("  \n \n");
        sound("shift;");
        sound("shift\n;\nsum ;flip 0;flip6;flip 006;table 1;");
        sound("a1;b2;c3;");
        sound("c u;a u;b u;");
        sound("a u+eta-d*2/(3);");
        sound("a eta/d;");
        sound("b - - - 1;");
        sound("table eta*d-(1);table 2;");
        sound("a 9999;b 00000000000000000000000009999;");
        sound(times("sum;", 30));
        sound("a 1;b 2;c 3;" + times("flip 1;", 27));
        sound("a " + times("(", 8) + "u" + times(")", 8) + ";");
        sound("a " + times("-", 8) + "u;");
        sound("a " + times("-(", 4) + "u" + times(")", 4) + ";");
        sound("a " + times("(1)+", 20) + "-1--1*-1;");
        sound("a -(1)-(2)-(3)-(4)-(5)-(6)-(7)-(8)-(9)-(10);");
        sound("a ((((((((1))))))))+((((((((1))))))));");
        sound("a --------1*--------1;");
        sound("a 1" + times("+1", 148) + ";");
        sound("a " + times("1*(2+", 8) + "3" + times(")", 8) + ";");
    }

    private static void cannotStand() {
        fault("x;", 1, 0);
        fault("A 1;", 1, 0);
        fault("Sum;", 1, 0);
        fault("sums;", 1, 0);
        fault("su m;", 1, 0);
        fault("az 1;", 1, 0);
        fault("aZ 1;", 1, 0);
        fault("aA 1;", 1, 0);
        fault("a uz;", 1, 2);
        fault("a uZ;", 1, 2);
        fault("  u;", 1, 2);
        fault("eta;", 1, 0);
        fault("d 1;", 1, 0);
        fault("1;", 1, 0);
        fault(";", 1, 0);
        fault("sum;;", 1, 4);
        fault("(sum);", 1, 0);
        fault("sum 1;", 1, 4);
        fault("shift sum;", 1, 6);
        fault("sum sum;", 1, 4);
        fault("a;", 1, 1);
        fault("a 1 2;", 1, 4);
        fault("a 1 u;", 1, 4);
        fault("a u(1);", 1, 3);
        fault("a (1;", 1, 4);
        fault("a 1);", 1, 3);
        fault("a ();", 1, 3);
        fault("a (1 2);", 1, 5);
        fault("a 1+;", 1, 4);
        fault("a +1;", 1, 2);
        fault("a 1+*2;", 1, 4);
        fault("a 1*;", 1, 4);
        fault("a 1//2;", 1, 4);
        fault("a -;", 1, 3);
        fault("a a;", 1, 2);
        fault("a sum;", 1, 2);
        fault("a U;", 1, 2);
        fault("a uu;", 1, 2);
        fault("a Eta;", 1, 2);
        fault("a 1b 2;", 1, 3);
        fault("a 2u;", 1, 3);
        fault("flip;", 1, 4);
        fault("flip u;", 1, 5);
        fault("flip -1;", 1, 5);
        fault("flip (1);", 1, 5);
        fault("flip 1+1;", 1, 6);
        fault("flip 1 1;", 1, 7);
        fault("table;", 1, 5);
        fault("table 1 1;", 1, 8);
        fault("table1u;", 1, 6);
        fault("table sum;", 1, 6);
    }

    private static void isNone() {
        fault("#", 1, 0);
        fault("sum#;", 1, 3);
        fault("sum\t;", 1, 3);
        fault("sum;\r\n", 1, 4);
        fault("sum;\0", 1, 4);
        fault("\1sum;", 1, 0);
        fault("\2sum;", 1, 0);
        fault("a 1.5;", 1, 3);
        fault("a \u00e9;", 1, 2);
        fault("a 1\u00ff;", 1, 3);
        fault("a [1];", 1, 2);
        fault("a u_u;", 1, 3);
        fault("a 1:", 1, 3);
        fault("a `;", 1, 2);
        fault("a {;", 1, 2);
        fault("a @;", 1, 2);
        fault("flip =;", 1, 5);
        fault("a 1,", 1, 3);
        fault("a !;", 1, 2);
    }

    private static void atTheEnd() {
        fault("a", 1, 1);
        fault("a  ", 1, 3);
        fault("a 1", 1, 3);
        fault("a 1 \n ", 1, 6);
        fault("a (1", 1, 4);
        fault("a 1+", 1, 4);
        fault("a -", 1, 3);
        fault("flip", 1, 4);
        fault("flip 1", 1, 6);
        fault("sum", 1, 3);
        fault("sum;shift", 1, 9);
        fault("table 1", 1, 7);
        fault("a" + times(" ", 299), 1, 300);
        fault("a " + times("1+", 149), 1, 300);
    }

    private static void numbersTooLarge() {
        fault("a 10000;", 2, 2);
        fault("a 1+99999;", 2, 4);
        fault("a (10000);", 2, 3);
        fault("a -10000;", 2, 3);
        fault("table 10000;", 2, 6);
        fault("a 4294967296;", 2, 2);
        fault("a 4294967297;", 2, 2);
        fault("a " + times("9", 298), 2, 2);
        fault("a 1" + times("0", 200) + ";", 2, 2);
        fault("flip 7;", 2, 5);
        fault("flip 9999;", 2, 5);
        fault("flip 10000;", 2, 5);
        fault("flip 4294967296;", 2, 5);
        fault("flip 10000", 2, 5);
    }

    private static void openTooDeep() {
        fault("a " + times("(", 9) + "1" + times(")", 9) + ";", 3, 10);
        fault("a " + times("-", 9) + "1;", 3, 10);
        fault("a " + times("(", 12), 3, 10);
        fault("a " + times("-(", 4) + "-1;", 3, 10);
        fault("a " + times("(-", 4) + "(1;", 3, 10);
        fault("a -(1)+" + times("(", 9), 3, 15);
        fault("a (((1)))*((((((((-1;", 3, 18);
        fault("a 1+(2-(3*(4/(5+(6-(7*(8/(9+(1;", 3, 28);
        fault("table " + times("(", 9) + "u", 3, 14);
        fault("a -1-" + times("-", 9) + "1;", 3, 13);
    }

    private static void toldTwice() {
        fault("a 1;a 2;", 4, 4);
        fault("b 1;a 1;b 2;", 4, 8);
        fault("c 1;sum; c", 4, 9);
        fault("a 1;b 1;c 1; a 1;", 4, 13);
        fault("a 1;a", 4, 4);
    }

    private static void uInTable() {
        fault("table u;", 5, 6);
        fault("table 1+(2*u);", 5, 11);
        fault("table -u;", 5, 7);
        fault("a u;table u", 5, 10);
        sound("table eta;a u;");
    }

    private static void tooManyClauses() {
        fault(times("sum;", 31), 6, 120);
        fault(times("sum;", 30) + " sum", 6, 121);
        fault(times("sum;", 30) + "flip 9;", 6, 120);
        fault("a 1;" + times("sum;", 29) + "b", 6, 120);
        sound(times("sum;", 30) + " \n");
    }

    private static void theLeastOfOne() {
        fault(times("sum;", 30) + "x", 1, 120);
        fault(times("sum;", 30) + ";", 1, 120);
        fault(times("sum;", 30) + "10000;", 1, 120);
        fault("a 1;" + times("sum;", 29) + "a", 4, 120);
        fault("a 1 10000;", 1, 4);
        fault("a u 10000", 1, 4);
        fault("table 1 u;", 1, 8);
        fault("10000;", 1, 0);
        fault("a 10000 #;", 2, 2);
        fault("a # 10000;", 1, 2);
        fault("a 1;a 10000;", 4, 4);
        fault("a 10000;a 1;", 2, 2);
    }
}
