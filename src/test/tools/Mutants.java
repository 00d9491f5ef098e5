import java.io.ByteArrayOutputStream;
import java.io.OutputStream;
import java.io.PrintStream;
import java.net.URL;
import java.net.URLClassLoader;
import java.nio.file.DirectoryStream;
import java.nio.file.Files;
import java.nio.file.Path;
import java.util.ArrayList;
import java.util.List;
import java.util.concurrent.ExecutorService;
import java.util.concurrent.Executors;
import java.util.concurrent.TimeUnit;
import java.util.concurrent.atomic.AtomicInteger;
import java.util.regex.Matcher;
import java.util.regex.Pattern;
import javax.tools.ToolProvider;

/**
 * Breaks the class in one place at a time, and tells which breaks no test of boundary cases sees. No part of .ci/run: it
 * takes minutes, and some breaks change nothing that a call could show. From the project's folder:
 *
 *     java src/test/tools/Mutants.java [the first line of the source to break [the last one]]
 */
public final class Mutants {
    private record Break(int from, int to, String put) { }

    private static final Path MAIN = Path.of("src/main/java/BeckChoice.java");
    private static final PrintStream OUT = System.out;
    private static final int SECONDS_MOST = 20;

    private static String source;
    private static Path classes;
    private static final List<String> TESTS = new ArrayList<>();
    private static final List<Break> BREAKS = new ArrayList<>();
    private static final AtomicInteger UNSEEN = new AtomicInteger();
    private static final AtomicInteger SEEN = new AtomicInteger();
    private static final AtomicInteger ENDLESS = new AtomicInteger();

    /** The source with as many blanks in place of comments and texts: nothing is broken there. */
    private static String bare() {
        StringBuilder s = new StringBuilder(source);
        Matcher m = Pattern.compile("//[^\n]*|(?s:/\\*.*?\\*/)|\"(\\\\.|[^\"\\\\])*\"|'(\\\\.|[^'\\\\])'").matcher(source);
        while (m.find()) {
            for (int i = m.start(); i < m.end(); i++) {
                s.setCharAt(i, source.charAt(i) == '\n' ? '\n' : '_');
            }
        }
        return s.toString();
    }

    private static void each(String bare, String pattern, String... puts) {
        Matcher m = Pattern.compile(pattern, Pattern.MULTILINE).matcher(bare);
        while (m.find()) {
            for (String put : puts) {
                BREAKS.add(new Break(m.start(), m.end(), put));
            }
        }
    }

    private static void collect() {
        String bare = bare();
        Matcher numbers = Pattern.compile("(?<![\\w.])\\d+(?![\\w.])").matcher(bare);
        while (numbers.find()) {
            int n = Integer.parseInt(numbers.group());
            BREAKS.add(new Break(numbers.start(), numbers.end(), "" + (n + 1)));
            BREAKS.add(new Break(numbers.start(), numbers.end(), "(" + (n - 1) + ")"));
        }
        each(bare, "(?<= )<(?= )", "<=", ">");
        each(bare, "(?<= )<=(?= )", "<", ">");
        each(bare, "(?<= )>(?= )", ">=", "<");
        each(bare, "(?<= )>=(?= )", ">", "<");
        each(bare, "(?<= )==(?= )", "!=");
        each(bare, "(?<= )!=(?= )", "==");
        each(bare, "&&", "||");
        each(bare, "\\|\\|", "&&");
        each(bare, "(?<= )\\+(?= )", "-");
        each(bare, "(?<= )-(?= )", "+");
        each(bare, "(?<= )\\*(?= )", "+");
        each(bare, "(?<= )&(?= )", "|");
        each(bare, "!(?=[a-zA-Z(])", "");
        each(bare, "\\btrue\\b", "false");
        each(bare, "\\bfalse\\b", "true");
        each(bare, "Math\\.min\\b", "Math.max");
        each(bare, "Math\\.max\\b", "Math.min");
        each(bare, "(?<=return |\\? |: )NO_SUCH\\b", "CANT_BE");
        each(bare, "(?<=return |\\? |: )(CANT_BE|TRAY_MISSING|NOT_NOW|NO_PLACE|TOO_MANY)\\b", "NO_SUCH");
        each(bare, "(?<=return |\\? |: )WHY_(NO_SUCH|NO_ROOM)\\b", "WHY_WOULDNT");
        each(bare, "(?<=return |\\? |: )WHY_(IT_IS_SO|WOULDNT)\\b", "WHY_NO_SUCH");
        // A statement that is no declaration and no return is left out.
        each(bare, "(?<=^ {0,40})(?!return |private |static |final |int |long |boolean |break|continue|import )"
            + "[a-z][\\w.]*(\\[[^;{}]*\\])?( [-+|&*]?= [^;{}]*|\\+\\+|--|\\([^;{}]*\\));$", ";");
    }

    private static boolean compile(Path to, List<String> files) {
        List<String> options = new ArrayList<>(List.of("-nowarn", "-cp", classes.toString(), "-d", to.toString()));
        options.addAll(files);
        OutputStream lost = new ByteArrayOutputStream();
        return ToolProvider.getSystemJavaCompiler().run(null, lost, lost, options.toArray(new String[0])) == 0;
    }

    private static void prepare() throws Exception {
        source = Files.readString(MAIN);
        classes = Files.createTempDirectory("mutants");
        List<String> files = new ArrayList<>(List.of(MAIN.toString()));
        for (String folder : new String[] {"src/test/java", "src/test/java/helpers"}) {
            try (DirectoryStream<Path> all = Files.newDirectoryStream(Path.of(folder), "*Edges.java")) {
                for (Path file : all) {
                    files.add(file.toString());
                    String name = file.getFileName().toString().replace(".java", "");
                    if (!name.equals("Edges")) {
                        TESTS.add(name);
                    }
                }
            }
        }
        if (!compile(classes, files)) {
            throw new IllegalStateException("the tests don't compile");
        }
    }

    private static void run(Break it, int line) {
        try {
            Path folder = Files.createTempDirectory("mutant");
            Path file = folder.resolve("BeckChoice.java");
            Files.writeString(file, source.substring(0, it.from) + it.put + source.substring(it.to));
            if (!compile(folder, List.of(file.toString()))) {
                clear(folder);
                return;
            }
            URL[] urls = {folder.toUri().toURL(), classes.toUri().toURL()};
            boolean[] seen = new boolean[1];
            Thread thread = new Thread(() -> seen[0] = isSeen(urls));
            thread.setDaemon(true);
            thread.start();
            thread.join(SECONDS_MOST * 1000L);
            clear(folder);
            AtomicInteger kind = thread.isAlive() ? ENDLESS : seen[0] ? SEEN : UNSEEN;
            kind.incrementAndGet();
            if (kind == UNSEEN) {
                int start = source.lastIndexOf('\n', it.from) + 1;
                OUT.println(line + ": " + source.substring(it.from, it.to) + " -> " + it.put + " | "
                    + source.substring(start, source.indexOf('\n', it.from)).trim());
            }
        } catch (Exception e) {
            OUT.println(line + ": " + e);
        }
    }

    private static void clear(Path folder) throws java.io.IOException {
        try (DirectoryStream<Path> all = Files.newDirectoryStream(folder)) {
            for (Path file : all) {
                Files.delete(file);
            }
        }
        Files.delete(folder);
    }

    private static boolean isSeen(URL[] urls) {
        try (URLClassLoader loader = new URLClassLoader(urls, ClassLoader.getPlatformClassLoader())) {
            for (String test : TESTS) {
                loader.loadClass(test).getMethod("main", String[].class).invoke(null, (Object) new String[0]);
            }
            return false;
        } catch (ReflectiveOperationException | java.io.IOException | Error e) {
            return true;
        }
    }

    public static void main(String[] args) throws Exception {
        int first = args.length > 0 ? Integer.parseInt(args[0]) : 1;
        int last = args.length > 1 ? Integer.parseInt(args[1]) : Integer.MAX_VALUE;
        // A test that ends the machine would end this one: Edges throws in its place.
        System.setProperty("edges.throw", "true");
        System.setOut(new PrintStream(OutputStream.nullOutputStream()));
        prepare();
        collect();
        ExecutorService workers = Executors.newFixedThreadPool(Runtime.getRuntime().availableProcessors());
        for (Break it : BREAKS) {
            int line = 1 + (int) source.substring(0, it.from).chars().filter(c -> c == '\n').count();
            if (line >= first && line <= last) {
                workers.submit(() -> run(it, line));
            }
        }
        workers.shutdown();
        workers.awaitTermination(1, TimeUnit.HOURS);
        OUT.println(SEEN + " seen, " + ENDLESS + " without an end, " + UNSEEN + " not seen");
        System.exit(0);
    }
}
