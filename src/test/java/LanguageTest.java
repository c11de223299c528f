import java.nio.file.Files;
import java.nio.file.Path;
import java.util.regex.Matcher;
import java.util.regex.Pattern;

/** Rules of LANGUAGE.md that the program's text shows. */
public final class LanguageTest {
    private static final int MOST_LINES = 60;

    public static void main(String[] args) throws Exception {
        Checks c = new Checks();
        String text = Files.readString(Path.of("src/main/java/GridRoom.java"));
        for (int i = 0; i < text.length(); i++) {
            if (text.charAt(i) > 127) {
                c.due("sign above 127 at " + i, text.charAt(i), 0);
            }
        }
        String bare = text.replaceAll("(?s)/\\*.*?\\*/", "").replaceAll("//[^\n]*", "")
                .replaceAll("\"[^\"\n]*\"", "TEXT").replaceAll("'(\\\\.|[^'])'", "SIGN");
        forbidden(c, bare);
        imports(c, bare);
        library(c, bare);
        thrown(c, bare);
        lengths(c, bare);
        c.close();
    }

    private static int times(String bare, String pattern) {
        Matcher m = Pattern.compile(pattern).matcher(bare);
        int n = 0;
        while (m.find()) {
            n++;
        }
        return n;
    }

    private static void forbidden(Checks c, String bare) {
        String[] all = {"->", "::", "\\btry\\b", "\\bcatch\\b", "\\bfinally\\b", "\\bsynchronized\\b", "\\bassert\\b",
            "\\bdouble\\b", "\\bfloat\\b", "\\bvar\\b", "\\bprotected\\b", "\\bpackage\\b", "\\bstatic \\{", "TEXT \\+",
            "\\+ TEXT", "\\bObject\\b", "\\.equals\\(", "\\bhashCode\\b", "\\btoString\\b", "\\w+Exact\\(",
            "\\bnative\\b", "\\bthis\\)", "Throwable", "\\bThread\\b", "while \\(true\\)", "for \\(;;"};
        for (String one : all) {
            c.due("there is " + one, times(bare, one), 0);
        }
    }

    private static void imports(Checks c, String bare) {
        c.due("two imports", times(bare, "(?m)^import "), 2);
        c.due("Arrays", times(bare, "(?m)^import java\\.util\\.Arrays;"), 1);
        c.due("NoSuchElementException", times(bare, "(?m)^import java\\.util\\.NoSuchElementException;"), 1);
    }

    private static void library(Checks c, String bare) {
        c.due("System for arraycopy alone", times(bare, "\\bSystem\\.(?!arraycopy)"), 0);
        c.due("Arrays for fill alone", times(bare, "\\bArrays\\.(?!fill\\()"), 0);
        c.due("Math for min and max alone", times(bare, "\\bMath\\.(?!min\\(|max\\()"), 0);
        c.due("Integer, Long for bitCount alone", times(bare, "\\b(Integer|Long)\\.(?!bitCount\\()"), 0);
    }

    private static void thrown(Checks c, String bare) {
        int all = times(bare, "\\bthrow\\b");
        c.due("all throws are of told", times(bare, "throw new NoSuchElementException\\(TEXT\\);"), all);
        int told = bare.indexOf("public int told(");
        String rest = bare.substring(told, bare.indexOf("public ", told + 7));
        c.due("and stand in it", times(rest, "\\bthrow\\b"), all);
    }

    /** Methods are told by their indents. */
    private static void lengths(Checks c, String bare) {
        String[] lines = bare.split("\n");
        int start = -1;
        String indent = "";
        for (int i = 0; i < lines.length; i++) {
            Matcher m = Pattern.compile("^( {4}| {8})(?! )[\\w\\[\\]. ]+\\([^;]*\\{$").matcher(lines[i]);
            if (start < 0 && m.find() && !lines[i].contains(" class ")) {
                start = i;
                indent = m.group(1);
            } else if (start >= 0 && lines[i].equals(indent + "}")) {
                c.due(lines[start].trim() + " is long", i - start + 1 <= MOST_LINES, true);
                start = -1;
            }
        }
    }
}
