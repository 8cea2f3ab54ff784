import java.util.Random;

/** Long runs of calls, drawn by fixed seeds, whose every answer is compared with the plain model's. */
public final class ModelTest {
    private static final int[] PRIMES = {5, 5, 7, 7, 11, 13, 17, 19, 29, 31, 43, 61, 71, 97};
    private static final String ODD = "();u-9a#\t\n d\0\u00e9+/*A";

    private final Random random;
    private final Due due;
    private final SolvedChains x;
    private final Model y;
    private final int profile;

    private ModelTest(int seed, Due due) {
        this.random = new Random(seed);
        this.due = due;
        this.profile = seed % 4;
        int n = seed % 9 == 0 ? random.nextInt() : random.nextInt(8);
        x = new SolvedChains(n);
        y = new Model(n);
    }

    public static void main(String[] args) {
        Due due = new Due("ModelTest");
        int runs = args.length > 0 ? Integer.parseInt(args[0]) : 240;
        int first = args.length > 1 ? Integer.parseInt(args[1]) : 1;
        for (int seed = first; seed < first + runs; seed++) {
            new ModelTest(seed, due).run(seed);
        }
        due.end();
    }

    private void run(int seed) {
        for (int i = 0; i < 250; i++) {
            String at = "seed " + seed + " call " + i + ": ";
            int sort = random.nextInt(100);
            int telling = profile == 0 ? 35 : 12;
            int acting = profile == 1 ? 50 : 15;
            if (sort < telling) {
                tellText(at);
            } else if (sort < telling + acting) {
                change(at);
            } else if (sort < telling + acting + 15) {
                settle(at);
            } else {
                ask(at);
            }
        }
    }

    /** A number about the range 0 .. most, seldom far off. */
    private int near(int most) {
        int sort = random.nextInt(40);
        if (sort == 0) {
            return -1;
        }
        if (sort == 1) {
            return most + 1;
        }
        if (sort == 2) {
            int[] far = {-2, Integer.MIN_VALUE, Integer.MAX_VALUE, 1000, -7};
            return far[random.nextInt(far.length)];
        }
        return random.nextInt(most + 1);
    }

    private int letters() {
        return x.about(0);
    }

    private int state() {
        return near((1 << letters()) - 1);
    }

    private int number() {
        return near(x.about(2) - 1);
    }

    private void settle(String at) {
        int a = random.nextInt(8);
        int b;
        int c;
        switch (random.nextInt(profile == 3 ? 9 : 7)) {
            case 0:
                b = random.nextInt(3) == 0 ? near(7) : 2 + random.nextInt(4);
                due.is(at + "chain(" + b + ", " + (a > 2) + ")", x.chain(b, a > 2), y.chain(b, a > 2));
                break;
            case 1:
            case 2:
                b = random.nextInt(6) == 0 ? near(101) : PRIMES[random.nextInt(PRIMES.length)];
                due.is(at + "prime(" + b + ")", x.prime(b), y.prime(b));
                break;
            case 3:
            case 4:
                b = number();
                c = number();
                due.is(at + "numbers(" + b + ", " + c + ")", x.numbers(b, c), y.numbers(b, c));
                break;
            case 5:
                b = near(3);
                due.is(at + "by(" + b + ")", x.by(b), y.by(b));
                break;
            case 6:
                due.is(at + "image()", x.image(), y.image());
                break;
            default:
                due.is(at + "back()", x.back(), y.back());
                break;
        }
        for (int what = 0; what < 10; what++) {
            due.is(at + "about(" + what + ")", x.about(what), y.about(what));
        }
    }

    private void change(String at) {
        int a;
        int b;
        switch (random.nextInt(9)) {
            case 0:
                a = state();
                due.is(at + "set(" + a + ")", x.set(a), y.set(a));
                break;
            case 1:
                a = near(3);
                due.is(at + "played(" + a + ")", x.played(a), y.played(a));
                break;
            case 2:
            case 3:
                due.is(at + "undo()", x.undo(), y.undo());
                break;
            case 4:
                due.is(at + "redo()", x.redo(), y.redo());
                break;
            default:
                a = near(3);
                b = a == 1 ? near(letters() - 1) : number();
                due.is(at + "act(" + a + ", " + b + ")", x.act(a, b), y.act(a, b));
                break;
        }
        for (int s = 0; s < 1 << letters(); s++) {
            due.is(at + "at(" + s + ")", x.at(s), y.at(s));
        }
        due.is(at + "norm()", x.norm(), y.norm());
        due.is(at + "about(7)", x.about(7), y.about(7));
        due.is(at + "about(8)", x.about(8), y.about(8));
    }

    private void ask(String at) {
        int m = near(letters());
        int turn = random.nextBoolean() ? -1 : near(letters() - 1);
        int a = number();
        int b = number();
        int s = state();
        int t = random.nextInt(3) > 0 ? state() : s;
        int j = near(random.nextInt(4) == 0 ? 99 : 6);
        int small = near(3);
        switch (random.nextInt(20)) {
            case 0: due.is(at + "weight(" + small + ", " + a + ")", x.weight(small, a), y.weight(small, a)); break;
            case 1:
                if (x.about(2) < 20) {
                    due.is(at + "equation(" + small + ")", x.equation(small), y.equation(small));
                }
                break;
            case 2: due.is(at + "sum(" + s + ", " + t + ")", x.sum(s, t), y.sum(s, t)); break;
            case 3: due.is(at + "table(" + a + ", " + s + ", " + t + ")", x.table(a, s, t), y.table(a, s, t)); break;
            case 4: due.is(at + "commute(" + a + ", " + b + ")", x.commute(a, b), y.commute(a, b)); break;
            case 5: due.is(at + "keeps(" + a + ")", x.keeps(a), y.keeps(a)); break;
            case 6: due.is(at + "size(" + m + ", " + turn + ")", x.size(m, turn), y.size(m, turn)); break;
            case 7: due.is(at + "trace(" + m + ", " + j + ")", x.trace(m, j), y.trace(m, j)); break;
            case 8:
            case 9:
                for (int i = -1; i <= 36; i += 1 + random.nextInt(4)) {
                    due.is(at + "poly(" + m + ", " + turn + ", " + i + ")", x.poly(m, turn, i), y.poly(m, turn, i));
                }
                break;
            case 10: due.is(at + "own(" + m + ", " + (small - 1) + ")", x.own(m, small - 1), y.own(m, small - 1)); break;
            case 11: due.is(at + "often(" + m + ", " + a + ")", x.often(m, a), y.often(m, a)); break;
            case 12: due.is(at + "root()", x.root(), y.root()); break;
            case 13: due.is(at + "mean(" + m + ", " + small + ")", x.mean(m, small), y.mean(m, small)); break;
            case 14:
            case 15: askPair(at, small); break;
            case 16: due.is(at + "at(" + s + ")", x.at(s), y.at(s)); break;
            case 17: due.is(at + "power(" + s + ", " + j + ", " + t + ")", x.power(s, j, t), y.power(s, j, t)); break;
            case 18: due.is(at + "fault(" + small + ")", x.fault(small), y.fault(small)); break;
            default: due.is(at + "about(" + j + ")", x.about(j), y.about(j)); break;
        }
    }

    private void askPair(String at, int m) {
        if (m == 2 && x.about(2) > 50 && random.nextInt(10) > 0) {
            return;
        }
        int[] js = {0, 1, 2, 3, 10, 11, 17, 10 + letters(), 11 + letters(), 30, 31, 32, 33, -1, 29};
        int many = x.pair(m, -1, js[random.nextInt(js.length)]);
        due.is(at + "pair(" + m + ", -1, 0)", many, y.pair(m, -1, 0));
        int i = near(Math.max(1, many));
        int j = js[random.nextInt(js.length)];
        due.is(at + "pair(" + m + ", " + i + ", " + j + ")", x.pair(m, i, j), y.pair(m, i, j));
    }

    private void tellText(String at) {
        if (random.nextInt(12) == 0) {
            due.is(at + "back()", x.back(), y.back());
        }
        byte[] bytes = Due.bytes(randomText());
        if (random.nextInt(3) == 0 && bytes.length > 0) {
            bytes[random.nextInt(bytes.length)] = (byte) ODD.charAt(random.nextInt(ODD.length()));
        }
        int before = x.about(9);
        for (int i = 0; i < bytes.length; i += 20) {
            int[] w = Due.words(bytes, i);
            due.is(at + "feed", x.feed(w[0], w[1], w[2], w[3], w[4]), y.feed(w[0], w[1], w[2], w[3], w[4]));
        }
        int end = random.nextInt(15) == 0 ? near(300) : Math.min(before + bytes.length, x.about(9));
        due.is(at + "end(" + end + ")", x.end(end), y.end(end));
        String told = new String(bytes, java.nio.charset.StandardCharsets.ISO_8859_1);
        due.is(at + "text() of " + told, x.text(), y.text());
        due.is(at + "fault(0) of " + told, x.fault(0), y.fault(0));
        due.is(at + "fault(1) of " + told, x.fault(1), y.fault(1));
        due.is(at + "about(9)", x.about(9), y.about(9));
    }

    private String randomText() {
        StringBuilder all = new StringBuilder();
        int clauses = random.nextInt(14) == 0 ? 28 + random.nextInt(5) : random.nextInt(6);
        boolean repeats = random.nextInt(5) == 0;
        String unused = "abc";
        for (int i = 0; i < clauses; i++) {
            int sort = clauses > 20 ? 5 + random.nextInt(2) : random.nextInt(8);
            if (sort < 3) {
                String head = repeats ? "abc".substring(sort, sort + 1)
                        : unused.isEmpty() ? "" : unused.substring(0, 1);
                unused = unused.isEmpty() ? "" : unused.substring(1);
                if (!head.isEmpty()) {
                    all.append(head).append(' ').append(sum(0, false)).append(';');
                }
            } else if (sort == 3 || sort == 4) {
                all.append("table ").append(sum(1, true)).append(';');
            } else if (sort == 5) {
                all.append("sum;");
            } else if (sort == 6) {
                all.append("flip ").append(random.nextInt(random.nextInt(9) == 0 ? 9 : 5)).append(';');
            } else {
                all.append("shift ; ");
            }
        }
        return all.toString();
    }

    private String sum(int depth, boolean inTable) {
        StringBuilder all = new StringBuilder(product(depth, inTable));
        for (int i = random.nextInt(3); i > 0; i--) {
            all.append(random.nextBoolean() ? "+" : " - ").append(product(depth, inTable));
        }
        return all.toString();
    }

    private String product(int depth, boolean inTable) {
        StringBuilder all = new StringBuilder(one(depth, inTable));
        for (int i = random.nextInt(3) - 1; i > 0; i--) {
            all.append(random.nextBoolean() ? "*" : "/\n").append(one(depth, inTable));
        }
        return all.toString();
    }

    private String one(int depth, boolean inTable) {
        int sort = random.nextInt(depth > 3 ? 6 : 9);
        if (random.nextInt(60) == 0) {
            return "-(-(-((-(".substring(random.nextInt(9)) + "1" + ")))))".substring(random.nextInt(6));
        }
        switch (sort) {
            case 0: return Integer.toString(random.nextInt(random.nextInt(20) == 0 ? 12000 : 30));
            case 1: return inTable && random.nextInt(12) > 0 ? "007" : "u";
            case 2: return "eta";
            case 3: return "d";
            case 4: return "-" + (random.nextBoolean() ? "u" : "3").replace(inTable ? "u" : "#", "4");
            case 5: return "1";
            case 6: return "-" + one(depth + 1, inTable);
            default: return "(" + sum(depth + 1, inTable) + ")";
        }
    }
}
