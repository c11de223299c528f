import java.nio.file.Files;
import java.nio.file.Path;
import java.util.Arrays;
import java.util.LinkedHashMap;
import java.util.List;
import java.util.Map;
import java.util.regex.Matcher;
import java.util.regex.Pattern;
import java.util.stream.Collectors;
import java.util.stream.Stream;

/**
 * Each test of a sentence says in its remark which one it holds, as the document has it: part, colon, the words in
 * quotes. Here these are looked for in the document, and nothing of its terms and promises may be left over.
 */
public final class SentencesTest {
    private static final Path DOCUMENT = Path.of("../shared/DOC.md");
    private static final Path TESTS = Path.of("src/test/java");
    private static final Pattern REMARK = Pattern.compile("(?s)/\\*\\*(.*?)\\*/\\s*(\\S[^\\n]*)");
    private static final Pattern QUOTE = Pattern.compile("(What it is|Constants|Terms \\d|Promise \\d+): \"([^\"]*)\"");
    private static final int PROMISES = 37;
    private static final int TERMS = 4;

    private final Checks c = new Checks();
    /** The document's parts, and of each which bytes some test has quoted. */
    private final Map<String, String> parts = new LinkedHashMap<>();
    private final Map<String, boolean[]> quoted = new LinkedHashMap<>();

    public static void main(String[] args) throws Exception {
        // The other tests hold what the document says without it; this one alone looks into it.
        if (!Files.exists(DOCUMENT)) {
            System.out.println(DOCUMENT + " is not here: nothing to look in");
            return;
        }
        SentencesTest test = new SentencesTest();
        test.readDocument(Files.readString(DOCUMENT));
        try (Stream<Path> all = Files.list(TESTS)) {
            for (Path one : all.filter(p -> p.toString().endsWith("EdgesTest.java")).sorted().collect(Collectors.toList())) {
                test.readTests(one.getFileName().toString(), Files.readString(one));
            }
        }
        test.leftOver();
        test.c.close();
    }

    private void add(String part, String text) {
        String flat = flat(text);
        parts.put(part, flat);
        quoted.put(part, new boolean[flat.length()]);
    }

    private static String flat(String text) {
        return text.replaceAll("```(text)?", " ").replaceAll("\\s+", " ").trim();
    }

    private static String between(String text, String from, String to) {
        int start = text.indexOf(from) + from.length();
        return text.substring(start, text.indexOf(to, start));
    }

    private void readDocument(String text) {
        // The first paragraph of it tells what the parts tell again.
        add("What it is", between(text, "==== 1.\n", "## The public face"));
        add("Constants", between(text, "The constants: ", "## Promise 1:"));
        String terms = between(text, "## Terms", "The constants: ");
        List<String> four = Arrays.asList(terms.split("==== \\d\\."));
        c.due("parts of the terms", four.size(), TERMS);
        for (int i = 0; i < four.size(); i++) {
            add("Terms " + (i + 1), four.get(i));
        }
        for (int n = 1; n <= PROMISES; n++) {
            String next = n < PROMISES ? "## Promise " + (n + 1) + ":" : "## Not promised";
            add("Promise " + n, between(text, "## Promise " + n + ":", next).replaceFirst("(?s)^.*?`: ", ""));
        }
    }

    private void readTests(String file, String text) {
        Matcher remark = REMARK.matcher(text);
        while (remark.find()) {
            boolean isTest = remark.group(2).startsWith("void ");
            Matcher quote = QUOTE.matcher(flat(remark.group(1).replaceAll("\n\\s*\\*", " ")));
            int found = 0;
            while (quote.find()) {
                found++;
                take(file, quote.group(1), quote.group(2));
            }
            if (isTest || found > 0) {
                c.due(file + ": " + remark.group(2) + " has one sentence of its own", found, 1);
            }
        }
        c.due(file + ": each test has a remark", times(text, "(?m)^    void \\w+\\(\\) \\{"),
                times(text, "\\*/\n    void \\w+\\(\\) \\{"));
    }

    private static int times(String text, String pattern) {
        Matcher m = Pattern.compile(pattern).matcher(text);
        int n = 0;
        while (m.find()) {
            n++;
        }
        return n;
    }

    private void take(String file, String part, String words) {
        String all = parts.get(part);
        int at = all.indexOf(words);
        c.due(file + ": " + part + " has the words: " + words, at >= 0, true);
        if (at >= 0) {
            c.due(file + ": " + part + " has them once: " + words, all.indexOf(words, at + 1), -1);
            Arrays.fill(quoted.get(part), at, at + words.length(), true);
        }
    }

    private void leftOver() {
        for (Map.Entry<String, String> part : parts.entrySet()) {
            StringBuilder left = new StringBuilder();
            for (int i = 0; i < part.getValue().length(); i++) {
                left.append(quoted.get(part.getKey())[i] ? ' ' : part.getValue().charAt(i));
            }
            String rest = left.toString().replaceAll("[`:]", " ").replaceAll("\\s+", " ").trim();
            c.due(part.getKey() + " has words that no test holds: " + rest, rest.isEmpty(), true);
        }
    }
}
