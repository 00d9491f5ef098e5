import java.io.IOException;
import java.lang.reflect.Method;
import java.lang.reflect.Modifier;
import java.nio.charset.StandardCharsets;
import java.nio.file.Files;
import java.nio.file.Path;
import java.util.regex.Matcher;
import java.util.regex.Pattern;

/** README.md says how the class is used: its calls answer as it says, its text is the one told, no call is left out. */
public final class BeckChoiceReadme {
    private static final Pattern TOLD = Pattern.compile("\\n// (land;.*)\\n");
    private static final Pattern CALL = Pattern.compile("\\nx\\.(\\w+)\\(([^)]*)\\); +// (-?\\d+|NONE)");
    private static int wrong;

    private static void fail(String what) {
        wrong++;
        System.out.println("README.md: " + what);
    }

    public static void main(String[] args) throws ReflectiveOperationException, IOException {
        String page = Files.readString(Path.of("README.md"), StandardCharsets.UTF_8);
        int calls = runExample(page);
        String tape = tapeOf(page);
        Matcher told = TOLD.matcher(page);
        if (!told.find() || !tape.trim().equals(told.group(1)) || !page.contains("x.land(" + told.group(1).length() + ")")) {
            fail("the text told isn't the one that is fed and read");
        }
        for (Method m : BeckChoice.class.getDeclaredMethods()) {
            if (Modifier.isPublic(m.getModifiers()) && !page.contains("`" + m.getName() + "`")) {
                fail(m.getName() + " isn't named");
            }
        }
        if (!page.contains("\n    .ci/run\n")) {
            fail("it isn't said how the tests are run");
        }
        if (calls < 20) {
            fail("only " + calls + " calls with their answers are found");
        }
        namesEveryTest(page);
        System.out.println(calls + " calls of README.md, " + (wrong == 0 ? "all as it says" : wrong + " faults"));
        if (wrong != 0) {
            System.exit(1);
        }
    }

    private static int runExample(String page) throws ReflectiveOperationException {
        BeckChoice x = new BeckChoice();
        int calls = 0;
        Matcher m = CALL.matcher(page);
        for (int at = 0; m.find(at); at = m.end()) {
            calls++;
            long want = m.group(3).equals("NONE") ? BeckChoice.NONE : Long.parseLong(m.group(3));
            long got = answer(x, m.group(1), m.group(2).isEmpty() ? new String[0] : m.group(2).split(", "));
            if (got != want) {
                fail(m.group().trim() + ", but it is " + got);
            }
        }
        return calls;
    }

    private static long answer(BeckChoice x, String name, String[] told) throws ReflectiveOperationException {
        for (Method m : BeckChoice.class.getDeclaredMethods()) {
            if (m.getName().equals(name) && Modifier.isPublic(m.getModifiers())) {
                Object[] given = new Object[told.length];
                for (int i = 0; i < told.length; i++) {
                    long v = Long.decode(told[i]);
                    given[i] = m.getParameterTypes()[i] == long.class ? (Object) v : (Object) (int) v;
                }
                return ((Number) m.invoke(x, given)).longValue();
            }
        }
        throw new NoSuchMethodException(name);
    }

    private static String tapeOf(String page) {
        StringBuilder tape = new StringBuilder();
        Matcher m = CALL.matcher(page);
        for (int at = 0; m.find(at); at = m.end()) {
            if (m.group(1).equals("feed")) {
                for (String four : m.group(2).split(", ")) {
                    for (int shift = 24; shift >= 0; shift -= 8) {
                        tape.append((char) (Long.decode(four) >> shift & 255));
                    }
                }
            }
        }
        return tape.toString();
    }

    private static void namesEveryTest(String page) throws IOException {
        try (var files = Files.newDirectoryStream(Path.of("src/test/java"), "*.java")) {
            for (Path file : files) {
                String name = file.getFileName().toString().replace(".java", "");
                boolean edges = name.endsWith("Edges")
                    && page.contains("`" + name.replace("BeckChoice", "").replace("Edges", "") + "`");
                if (!edges && !page.contains("`" + name + "`")) {
                    fail("the test " + name + " isn't named");
                }
            }
        }
    }
}
