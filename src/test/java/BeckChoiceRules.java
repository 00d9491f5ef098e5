import java.lang.reflect.Constructor;
import java.lang.reflect.Field;
import java.lang.reflect.Method;
import java.lang.reflect.Modifier;
import java.nio.file.Files;
import java.nio.file.Path;
import java.util.ArrayList;
import java.util.List;
import java.util.Set;
import java.util.TreeSet;
import java.util.regex.Matcher;
import java.util.regex.Pattern;

/** What of LANGUAGE.md can be seen from the source, the compiled class, and what calls make. */
public final class BeckChoiceRules {
    private static final String FACE = "int feed(int,int,int,int,int) int land(int) int fault(int) int beck(int,int) "
        + "int river(int,int) int likes(int,int) int takes(int,int) int gifts(int,int) int declare(int,int) int leave(int) "
        + "int send(int,int,int) int rain(int,int) int room(int,int) int undo(int) int judge(int,int) int perform(int) "
        + "int year(int,int) int holds() int breaks() int breaking() int forBecks(int) int forRivers(int) int choices() "
        + "int choice(int) int can(int) int sure() int fairest() int fullest() int gains(int) int lie(int) int liars() "
        + "int woos(int,int,int) int floods() int turnOff(int) int bearing(int) int marks(int,int) int ask(int,int) "
        + "int flooding(int,int) int staying(int,int) int numbers(int,int,int) long write(int,int,long) "
        + "int lists(int,int) int image(int) int restore(int) int count(int)";
    private static int wrong = 0;

    private static void fail(String what) {
        wrong++;
        System.out.println(what);
    }

    private static void face() {
        Set<String> due = new TreeSet<>();
        Matcher m = Pattern.compile("\\w+ \\w+\\([^)]*\\)").matcher(FACE);
        while (m.find()) {
            due.add(m.group());
        }
        Set<String> names = new TreeSet<>();
        for (String d : due) {
            names.add(d.replaceAll("^\\w+ |\\(.*", ""));
        }
        for (Method method : BeckChoice.class.getDeclaredMethods()) {
            StringBuilder s = new StringBuilder();
            for (Class<?> type : method.getParameterTypes()) {
                s.append(s.length() == 0 ? "" : ",").append(type.getName());
            }
            String told = method.getReturnType().getName() + " " + method.getName() + "(" + s + ")";
            if (Modifier.isPublic(method.getModifiers())) {
                if (!due.remove(told)) {
                    fail("not in the face: " + told);
                }
            } else if (!Modifier.isPrivate(method.getModifiers()) || names.contains(method.getName())) {
                fail("rule 1: " + told);
            }
        }
        due.forEach(d -> fail("missing in the face: " + d));
        for (Field f : BeckChoice.class.getDeclaredFields()) {
            if (!Modifier.isPrivate(f.getModifiers()) && !f.getName().equals("NONE")) {
                fail("rule 1: field " + f.getName());
            }
        }
        if (!Modifier.isFinal(BeckChoice.class.getModifiers())) {
            fail("the class is not final");
        }
        inside(names);
    }

    private static void inside(Set<String> names) {
        List<Class<?>> classes = new ArrayList<>(List.of(BeckChoice.class.getDeclaredClasses()));
        classes.add(BeckChoice.class);
        if (classes.size() > 12) {
            fail("rule 11: " + classes.size() + " classes");
        }
        for (Class<?> c : classes) {
            int fields = 0;
            for (Field f : c.getDeclaredFields()) {
                boolean constant = Modifier.isStatic(f.getModifiers());
                fields += constant ? 0 : 1;
                if (constant && !Modifier.isFinal(f.getModifiers())) {
                    fail("rule 5: " + f);
                }
            }
            if (fields > 20) {
                fail("rule 11: " + c.getName() + " has " + fields + " fields");
            }
            if (c != BeckChoice.class && !Modifier.isStatic(c.getModifiers())) {
                fail("rule 2: " + c.getName());
            }
            for (Method method : c.getDeclaredMethods()) {
                if (method.getParameterCount() > 7) {
                    fail("rule 11: " + method);
                }
                if (c != BeckChoice.class && names.contains(method.getName())) {
                    fail("rule 1: " + method);
                }
            }
            for (Constructor<?> k : c.getDeclaredConstructors()) {
                if (k.getParameterCount() > 7) {
                    fail("rule 11: " + k);
                }
            }
        }
    }

    private static void source() throws Exception {
        String text = Files.readString(Path.of("src/main/java/BeckChoice.java"));
        String bare = text.replaceAll("(?s)/\\*.*?\\*/", "").replaceAll("//[^\n]*", "")
            .replaceAll("\"(\\\\.|[^\"\\\\])*\"", "\"\"").replaceAll("'(\\\\.|[^'\\\\])'", "' '");
        String[] banned = {"\\bthrow\\b", "\\btry\\b", "\\bcatch\\b", "\\bsynchronized\\b", "\\bassert\\b", "->", "::",
            "\\bpackage\\b", "\\bprotected\\b", "\\w+Exact\\b", "\\bwhile \\(true\\)", "for \\(;;\\)", "\\bRandom\\b",
            "System\\.(?!arraycopy)", "\\bThread\\b", "\\bequals\\b", "\\bhashCode\\b", "\\btoString\\b", "\\bvolatile\\b",
            "static \\{", "\"\" \\+", "\\+ \"\"", "\\bnull\\b"};
        for (String b : banned) {
            Matcher m = Pattern.compile(b).matcher(bare);
            if (m.find()) {
                fail("the source has: " + m.group());
            }
        }
        Matcher imports = Pattern.compile("import ([^;]+);").matcher(bare);
        while (imports.find()) {
            if (!imports.group(1).equals("java.util.Arrays")) {
                fail("rule 4: import " + imports.group(1));
            }
        }
        String[] lines = text.split("\n", -1);
        int start = NO_METHOD;
        String indent = "";
        for (int i = 0; i < lines.length; i++) {
            Matcher m = Pattern.compile("( {4}| {8})(\\w[\\w\\[\\] ]*)?\\w+\\([^;]*\\) \\{").matcher(lines[i]);
            if (m.matches()) {
                start = i;
                indent = m.group(1);
            }
            if (start != NO_METHOD && lines[i].equals(indent + "}")) {
                if (i - start > 60) {
                    fail("rule 11: a method of " + (i - start) + " lines at line " + (start + 1));
                }
                start = NO_METHOD;
            }
        }
    }

    private static final int NO_METHOD = -1;

    private static void feed(BeckChoice x, int[] words) {
        for (int i = 0; i + 4 < words.length; i += 5) {
            x.feed(words[i], words[i + 1], words[i + 2], words[i + 3], words[i + 4]);
        }
    }

    private static int[] wordsOf(String text) {
        int[] words = new int[(text.length() + 19) / 20 * 5];
        for (int i = 0; i < words.length * 4; i++) {
            words[i / 4] = words[i / 4] << 8 | (i < text.length() ? text.charAt(i) : ' ');
        }
        return words;
    }

    private static long useAll(BeckChoice x, int[] words, int length) {
        feed(x, words);
        long sum = x.land(length) + x.fault(0) + x.beck(0, 4) + x.river(0, 5) + x.likes(0, 0) + x.takes(0, 0)
            + x.gifts(0, 0) + x.declare(0, 0) + x.leave(0) + x.send(0, 0, 1) + x.rain(0, 3) + x.room(0, 2) + x.undo(1);
        sum += x.numbers(0, 1, 6) + x.write(0, 0, 21) + x.lists(0, 0) + x.judge(0, 3) + x.perform(0) + x.year(7, 40);
        sum += x.holds() + x.breaks() + x.breaking() + x.forBecks(0) + x.forRivers(0) + x.choices() + x.choice(0);
        sum += x.can(0) + x.sure() + x.fairest() + x.fullest() + x.gains(0) + x.lie(0) + x.liars() + x.woos(0, 12, 0);
        sum += x.floods() + x.turnOff(1) + x.bearing(0) + x.lists(0, 1) + x.marks(0, 0) + x.ask(0, 0);
        sum += x.flooding(0, 0) + x.staying(0, 0) + x.image(0) + x.restore(0) + x.count(5);
        return sum;
    }

    /** Calls live in one room that is never emptied: they must make nothing. */
    private static void room() {
        if (!(java.lang.management.ManagementFactory.getThreadMXBean() instanceof com.sun.management.ThreadMXBean bean)) {
            return;
        }
        String text = "land;river room 2 name 1;river room 1 name 2;river room 2 name 3;river room 1;beck flow 9 dry 1;"
            + "beck flow 8 dry 2 mark 3;beck flow 7 dry 3;beck flow 6 mark 2;beck flow 5 dry 5;beck flow 4 to 1;"
            + "likes:50+(beck*3-river*2)*(beck-river*3)+gifts-(mark-name)*(mark-name);takes:50+gifts*2-beck*river;";
        int[] words = wordsOf(text);
        BeckChoice x = new BeckChoice();
        long id = Thread.currentThread().getId();
        useAll(x, words, text.length());
        bean.getThreadAllocatedBytes(id);
        long before = bean.getThreadAllocatedBytes(id);
        for (int i = 0; i < 8; i++) {
            useAll(x, words, text.length());
        }
        long calls = bean.getThreadAllocatedBytes(id) - before;
        before = bean.getThreadAllocatedBytes(id);
        BeckChoice y = new BeckChoice();
        long made = bean.getThreadAllocatedBytes(id) - before;
        System.out.println(calls + " bytes made by calls, " + made + " by an object" + (y.count(0) == 0 ? "" : "!"));
        if (calls > 4096) {
            fail("calls make " + calls + " bytes");
        }
        if (made > 100000) {
            fail("an object makes " + made + " bytes");
        }
    }

    public static void main(String[] args) throws Exception {
        face();
        source();
        room();
        System.out.println(wrong == 0 ? "all rules are kept" : wrong + " rules are not kept");
        if (wrong != 0) {
            System.exit(1);
        }
    }
}
