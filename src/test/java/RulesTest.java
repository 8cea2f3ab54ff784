import java.io.IOException;
import java.lang.management.ManagementFactory;
import java.lang.reflect.Constructor;
import java.lang.reflect.Field;
import java.lang.reflect.Method;
import java.lang.reflect.Modifier;
import java.nio.file.Files;
import java.nio.file.Path;
import java.util.List;
import java.util.Set;
import java.util.TreeSet;
import java.util.regex.Matcher;
import java.util.regex.Pattern;
import java.util.stream.Collectors;
import java.util.stream.Stream;

/** The face of the class, what of LANGUAGE.md can be seen in its text, and the room that calls take. */
public final class RulesTest {
    private static final Due DUE = new Due("RulesTest");
    private static final Path SOURCE = Path.of("src/main/java/SolvedChains.java");
    private static final String FACE = """
            boolean act(int,int)
            boolean by(int)
            boolean chain(int,boolean)
            boolean commute(int,int)
            boolean keeps(int)
            boolean numbers(int,int)
            boolean prime(int)
            boolean set(int)
            int about(int)
            int at(int)
            int back()
            int end(int)
            int equation(int)
            int fault(int)
            int feed(int,int,int,int,int)
            int image()
            int mean(int,int)
            int norm()
            int often(int,int)
            int own(int,int)
            int pair(int,int,int)
            int played(int)
            int poly(int,int,int)
            int power(int,int,int)
            int redo()
            int root()
            int size(int,int)
            int sum(int,int)
            int table(int,int,int)
            int text()
            int trace(int,int)
            int undo()
            int weight(int,int)
            """;

    public static void main(String[] args) throws IOException {
        face();
        insides();
        words();
        lengths();
        room();
        DUE.end();
    }

    private static void is(String what, boolean got) {
        DUE.is(what, got, true);
    }

    private static String told(Method m) {
        return m.getReturnType().getSimpleName() + " " + m.getName() + Stream.of(m.getParameterTypes())
                .map(Class::getSimpleName).collect(Collectors.joining(",", "(", ")"));
    }

    private static void face() {
        Class<?> c = SolvedChains.class;
        is("public final", Modifier.isPublic(c.getModifiers()) && Modifier.isFinal(c.getModifiers()));
        Set<String> open = new TreeSet<>();
        for (Method m : c.getDeclaredMethods()) {
            if (!Modifier.isPrivate(m.getModifiers())) {
                is(m + " is public", Modifier.isPublic(m.getModifiers()) && !Modifier.isStatic(m.getModifiers()));
                open.add(told(m));
            }
        }
        is("the methods are the document's: " + open, open.equals(new TreeSet<>(FACE.lines().toList())));
        for (Field f : c.getDeclaredFields()) {
            is(f + " is private", Modifier.isPrivate(f.getModifiers()) || f.getName().equals("NONE"));
        }
        Constructor<?>[] all = c.getDeclaredConstructors();
        is("one constructor", all.length == 1 && Modifier.isPublic(all[0].getModifiers())
                && List.of(all[0].getParameterTypes()).equals(List.of(int.class)));
    }

    private static void insides() {
        Set<String> names = FACE.lines().map(l -> l.replaceAll("^\\w+ (\\w+).*", "$1")).collect(Collectors.toSet());
        Class<?>[] inside = SolvedChains.class.getDeclaredClasses();
        is("some twelve classes", inside.length <= 12);
        for (Class<?> c : inside) {
            is(c + " is static", Modifier.isStatic(c.getModifiers()));
            is(c + " is not open", !Modifier.isPublic(c.getModifiers()) && !Modifier.isProtected(c.getModifiers()));
            for (Method m : c.getDeclaredMethods()) {
                is(m + " bears no name of the face", !names.contains(m.getName()));
                is(m + " has at most seven parameters", m.getParameterCount() <= 7);
            }
            for (Field f : c.getDeclaredFields()) {
                is(f + ": static ones are final", !Modifier.isStatic(f.getModifiers())
                        || Modifier.isFinal(f.getModifiers()));
            }
        }
        for (Method m : SolvedChains.class.getDeclaredMethods()) {
            is(m + " bears no name of the face", !Modifier.isPrivate(m.getModifiers()) || !names.contains(m.getName()));
        }
    }

    private static String bare() throws IOException {
        String text = Files.readString(SOURCE);
        text = text.replaceAll("(?s)/\\*.*?\\*/", "").replaceAll("//[^\n]*", "");
        return text.replaceAll("\"[^\"]*\"", "\"\"").replaceAll("'.'", "' '");
    }

    private static void words() throws IOException {
        String text = bare();
        for (String word : List.of("throw", "try", "catch", "synchronized", "assert", "import", "package", "Object",
                "double", "float", "Thread", "hashCode", "toString", "volatile", "protected", "finally", "var")) {
            is("no " + word, !Pattern.compile("\\b" + word + "\\b").matcher(text).find());
        }
        for (String sign : List.of("->", "::", "@")) {
            is("no " + sign, !text.contains(sign));
        }
        Matcher calls = Pattern.compile("\\b(Math|System|Integer|Long|Arrays|String)\\.(\\w+)").matcher(text);
        Set<String> known = Set.of("Math.max", "Math.min", "Math.floorMod", "System.arraycopy", "Integer.bitCount");
        while (calls.find()) {
            is("the library's " + calls.group(), known.contains(calls.group()));
        }
        is("one file", Files.list(SOURCE.getParent()).count() == 1);
        is("signs 10 and 32 to 126", Files.readString(SOURCE).chars().allMatch(s -> s == 10 || s >= 32 && s < 127));
    }

    /** Methods begin at a line that ends in a brace behind a bracket and end at a brace as far in. */
    private static void lengths() throws IOException {
        List<String> lines = Files.readAllLines(SOURCE);
        Pattern head = Pattern.compile("^( {4}| {8})(public|private|static|int|void|boolean|[A-Z]\\w*\\().*\\) \\{$");
        int methods = 0;
        for (int i = 0; i < lines.size(); i++) {
            Matcher m = head.matcher(lines.get(i));
            if (m.find()) {
                int end = i;
                while (end < lines.size() && !lines.get(end).equals(m.group(1) + "}")) {
                    end++;
                }
                is("sixty lines at most: " + lines.get(i), end - i < 60);
                methods++;
            }
        }
        is("methods were found", methods > 100);
    }

    /** A run has room for 7.3 million elements: calls make nothing, and an object is small. */
    private static void room() {
        if (!(ManagementFactory.getThreadMXBean() instanceof com.sun.management.ThreadMXBean bean)) {
            return;
        }
        long self = Thread.currentThread().getId();
        SolvedChains x = new SolvedChains(7);
        long before = bean.getThreadAllocatedBytes(self);
        SolvedChains y = new SolvedChains(7);
        long one = bean.getThreadAllocatedBytes(self) - before;
        is("an object takes " + one + " bytes", one < 4 * 14_000 + 8_000);
        calls(y, 1);
        before = bean.getThreadAllocatedBytes(self);
        calls(x, 12);
        long all = bean.getThreadAllocatedBytes(self) - before;
        is("some 500 calls take " + all + " bytes", all < 20_000);
    }

    private static void calls(SolvedChains x, int times) {
        for (int i = 0; i < times; i++) {
            x.chain(7, i % 2 == 0);
            x.prime(i % 3 == 0 ? 97 : 29);
            x.numbers(2 + i, i);
            x.feed(0x6120752b, 0x313b7461, 0x626c6520, 0x332a6574, 0x613b2020);
            x.end(19);
            x.by(x.text());
            x.weight(0, 1);
            x.equation(0);
            x.sum(1, 2);
            x.table(3, 1, 2);
            x.commute(1, 2);
            x.keeps(3);
            x.size(3, 1);
            x.trace(3, 99);
            x.poly(3, i % 2, 2);
            x.own(3, 0);
            x.often(3, 5);
            x.root();
            x.mean(3, 2);
            x.pair(2, 0, 32);
            x.pair(1, 0, 11);
            x.set(5);
            for (int k = 0; k < 4; k++) {
                x.act(k, 1);
            }
            x.played(0);
            x.undo();
            x.redo();
            x.at(3);
            x.norm();
            x.power(3, 99, 5);
            x.image();
            x.back();
            x.about(7);
            x.fault(0);
        }
    }
}
