import java.io.IOException;
import java.nio.file.DirectoryStream;
import java.nio.file.Files;
import java.nio.file.Path;
import java.util.ArrayList;
import java.util.List;
import java.util.Set;
import java.util.TreeSet;
import java.util.regex.Matcher;
import java.util.regex.Pattern;

/** The tests of boundary cases go through the whole document: no words of its terms and promises are left out. */
public final class BeckChoiceEdgesCover {
    private static final Path DOCUMENT = Path.of("../shared/DOC.md");
    private static final String TEXT = "\"(?:\\\\.|[^\"\\\\])*\"";
    private static final Pattern QUOTE = Pattern.compile("(?:E\\.says\\((\\d+), |within\\(|range\\()(" + TEXT
        + "(?:\\s*\\+\\s*" + TEXT + ")*)");
    /** Headings, the face, and what stands for groups of calls, none of which asks for an answer. */
    private static final String[] SILENT = {"## Terms", "## Promise \\d+: [\\w ]+ `[^`]*`:", "The constants:",
        "Ahead of the calls [^.]*? the interface says: ---- [^.]*\\.", "```text", "```", "==== \\d\\."};

    private static String flat(String text) {
        return text.replaceAll("\\s+", " ");
    }

    private static void blot(char[] part, int start, int length) {
        for (int i = start; i < start + length; i++) {
            part[i] = ' ';
        }
    }

    public static void main(String[] args) throws IOException {
        if (!Files.isReadable(DOCUMENT)) {
            System.out.println("there is no " + DOCUMENT + " to look into");
            return;
        }
        String document = flat(Files.readString(DOCUMENT));
        String part = document.substring(document.indexOf("## Terms"), document.indexOf("## Not promised"));
        Set<Integer> promises = new TreeSet<>();
        List<String> quotes = new ArrayList<>();
        try (DirectoryStream<Path> files = Files.newDirectoryStream(Path.of("src/test/java"), "*Edges.java")) {
            for (Path file : files) {
                Matcher m = QUOTE.matcher(Files.readString(file));
                while (m.find()) {
                    promises.add(m.group(1) == null ? 3 : Integer.parseInt(m.group(1)));
                    quotes.add(flat(m.group(2).replaceAll("\"\\s*\\+\\s*\"", "").replaceAll("^\"|\"$", "")));
                }
            }
        }
        char[] left = part.toCharArray();
        for (String quote : quotes) {
            for (int at = part.indexOf(quote); at >= 0; at = part.indexOf(quote, at + 1)) {
                blot(left, at, quote.length());
            }
        }
        for (String silent : SILENT) {
            Matcher m = Pattern.compile(silent).matcher(part);
            while (m.find()) {
                blot(left, m.start(), m.end() - m.start());
            }
        }
        int wrong = 0;
        Matcher words = Pattern.compile("[A-Za-z0-9]+[^ ]*( [^ ]+)*").matcher(new String(left));
        while (words.find()) {
            wrong++;
            System.out.println("no test of: " + words.group());
        }
        for (int p = 1; p <= 46; p++) {
            if (!promises.contains(p)) {
                wrong++;
                System.out.println("no test of promise " + p);
            }
        }
        System.out.println(quotes.size() + " sentences are tested, " + wrong + " parts are not");
        if (wrong != 0) {
            System.exit(1);
        }
    }
}
