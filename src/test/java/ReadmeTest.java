import java.io.IOException;
import java.lang.reflect.Method;
import java.lang.reflect.Modifier;
import java.net.URL;
import java.net.URLClassLoader;
import java.nio.file.Files;
import java.nio.file.Path;
import java.util.ArrayList;
import java.util.List;
import java.util.Set;
import java.util.TreeSet;
import java.util.regex.Matcher;
import java.util.regex.Pattern;
import java.util.stream.Collectors;
import java.util.stream.Stream;
import javax.tools.JavaCompiler;
import javax.tools.ToolProvider;

/** What README.md says is so: its lines of Java are compiled and run as one program, its list of tests is whole. */
public final class ReadmeTest {
    private static final Due DUE = new Due("ReadmeTest");
    private static final Path README = Path.of("README.md");
    private static final Path TESTS = Path.of("src/test/java");
    private static final Path RUN = Path.of(".ci/run");
    private static final Pattern ANSWERED = Pattern.compile("(.*?);\\s*// (-?\\d+|true|false|NONE)(:.*)?");
    private static final Pattern NAMED = Pattern.compile("(?:int|boolean) (\\w+) = .*");

    public static void main(String[] args) throws Exception {
        List<String> page = Files.readAllLines(README);
        List<String> lines = javaOf(page);
        usesTheWholeFace(lines);
        answersStand(lines);
        listIsWhole(String.join("\n", page));
        DUE.is(".ci/run can be run", Files.isExecutable(RUN), true);
        DUE.end();
    }

    private static List<String> javaOf(List<String> page) {
        List<String> lines = new ArrayList<>();
        boolean inside = false;
        for (String line : page) {
            if (line.startsWith("```")) {
                inside = line.equals("```java");
            } else if (inside) {
                lines.add(line);
            }
        }
        return lines;
    }

    private static void usesTheWholeFace(List<String> lines) {
        for (Method m : SolvedChains.class.getDeclaredMethods()) {
            if (Modifier.isPublic(m.getModifiers())) {
                boolean used = lines.stream().anyMatch(l -> l.contains("x." + m.getName() + "("));
                DUE.is("README.md shows " + m.getName(), used, true);
            }
        }
    }

    /** Every call but the constructor's must be told with its answer, so that none stands there unasked. */
    private static void answersStand(List<String> lines) throws Exception {
        StringBuilder program = new StringBuilder("public class ReadmeRun { public static void main(String[] args) {\n");
        for (String line : lines) {
            program.append(asked(line)).append('\n');
        }
        program.append("} }\n");
        Path folder = Files.createTempDirectory("readme");
        Path source = folder.resolve("ReadmeRun.java");
        Files.writeString(source, program);
        JavaCompiler compiler = ToolProvider.getSystemJavaCompiler();
        int refused = compiler.run(null, null, null, "-d", folder.toString(), "-cp",
                System.getProperty("java.class.path"), source.toString());
        DUE.is("README.md's lines compile", refused, 0);
        if (refused == 0) {
            try (URLClassLoader loader = new URLClassLoader(new URL[] {folder.toUri().toURL()})) {
                loader.loadClass("ReadmeRun").getMethod("main", String[].class).invoke(null, (Object) new String[0]);
            }
        }
        sweep(folder);
    }

    private static String asked(String line) {
        Matcher m = ANSWERED.matcher(line);
        if (!m.matches()) {
            boolean silent = line.isBlank() || line.startsWith("//") || line.startsWith("SolvedChains x = new ");
            DUE.is("README.md tells the answer of " + line, silent, true);
            return line;
        }
        String call = m.group(1);
        String want = m.group(2).equals("NONE") ? "SolvedChains.NONE" : m.group(2);
        Matcher named = NAMED.matcher(call);
        String ahead = named.matches() ? call + "; " : "";
        String got = named.matches() ? named.group(1) : call;
        return ahead + "ReadmeTest.compare(\"" + call + "\", " + got + ", " + want + ");";
    }

    /** Called by the program that README.md's lines make; it is loaded apart, so this must be public. */
    public static void compare(String call, int got, int want) {
        DUE.is("README.md: " + call, got, want);
    }

    public static void compare(String call, boolean got, boolean want) {
        DUE.is("README.md: " + call, got, want);
    }

    private static void sweep(Path folder) throws IOException {
        try (Stream<Path> files = Files.list(folder)) {
            for (Path file : files.toList()) {
                Files.delete(file);
            }
        }
        Files.delete(folder);
    }

    private static void listIsWhole(String page) throws IOException {
        Set<String> told = new TreeSet<>();
        Matcher names = Pattern.compile("`(\\w+Test)`").matcher(page);
        while (names.find()) {
            told.add(names.group(1));
        }
        try (Stream<Path> files = Files.list(TESTS)) {
            Set<String> there = files.map(f -> f.getFileName().toString()).filter(f -> f.endsWith("Test.java"))
                    .map(f -> f.substring(0, f.length() - 5)).collect(Collectors.toCollection(TreeSet::new));
            DUE.is("README.md names " + told + ", there are " + there, told.equals(there), true);
        }
    }
}
