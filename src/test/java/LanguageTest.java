import java.io.IOException;
import java.nio.file.Files;
import java.nio.file.Path;
import java.util.HashSet;
import java.util.Set;
import java.util.regex.Matcher;
import java.util.regex.Pattern;

/** The rules of ../shared/LANGUAGE.md that can be seen in the class's text; run from the project's root. */
public final class LanguageTest {
    private static final Pattern METHOD =
        Pattern.compile("(?m)^( +)((?:public |private |static )*)(?:[A-Za-z\\[\\]]+ )?(\\w+)\\(([^)]*)\\) \\{$");

    private LanguageTest() {
    }

    public static void main(String[] args) throws IOException {
        String source = Files.readString(Path.of("src/main/java/LastWordHill.java"));
        String bare = source.replaceAll("(?s)/\\*.*?\\*/", "").replaceAll("//[^\n]*", "").replaceAll("\"[^\"\n]*\"", "\"\"");
        words(bare);
        shape(bare);
        methods(bare);
        Check.finish();
    }

    private static int count(String text, String pattern) {
        Matcher m = Pattern.compile(pattern).matcher(text);
        int n = 0;
        while (m.find()) {
            n++;
        }
        return n;
    }

    private static void words(String bare) {
        String[] none = {"\\b(throw|throws|try|catch|synchronized|assert|volatile|native|protected)\\b", "->", "::",
            "Exact\\b", "\\bSystem\\.(?!arraycopy)", "\\bArrays\\.(?!fill|copyOf|copyOfRange)", "\\b(equals|hashCode|toString)\\b",
            "\\b(double|float|long)\\b", "\\bObject\\b", "\\bThread\\b", "\\bRandom\\b", "\\bstatic \\{", "@",
            "\\bnew \\w+\\([^;]*\\) \\{", "\"\" \\+|\\+ \"\""};
        for (String word : none) {
            Check.due("uses of " + word, count(bare, word), 0);
        }
        Check.due("imports", count(bare, "(?m)^import "), count(bare, "(?m)^import java\\.util\\.(Arrays|ArrayList|List);"));
        Check.due("static fields that are not final", count(bare, "(?m)^ +(private )?static (?!final)[^(\n]*[;=]"), 0);
        Check.due("classes inside that are not private, static and final",
            count(bare, "\\bclass \\w+ \\{") - count(bare, "(?m)^    private static final class \\w+ \\{"), 1);
    }

    private static void shape(String bare) {
        Check.due("some twelve classes", count(bare, "\\b(class|record|enum|interface) \\w+") <= 12, true);
        for (int i = 0; i < bare.length(); i++) {
            if (bare.charAt(i) > 127) {
                Check.due("a sign beyond 127 at " + i, bare.charAt(i), 0);
            }
        }
    }

    private static void methods(String bare) {
        Matcher m = METHOD.matcher(bare);
        Set<String> open = new HashSet<>();
        Set<String> hidden = new HashSet<>();
        int seen = 0;
        while (m.find()) {
            String name = m.group(3);
            if (name.equals("if") || name.equals("for") || name.equals("while") || name.equals("switch")) {
                continue;
            }
            seen++;
            (m.group(2).contains("public") ? open : hidden).add(name);
            int parameters = m.group(4).isBlank() ? 0 : m.group(4).split(",").length;
            Check.due("parameters of " + name, parameters <= 7, true);
            int end = bare.indexOf("\n" + m.group(1) + "}", m.end());
            Check.due("lines of " + name, count(bare.substring(m.start(), end), "\n") <= 60, true);
        }
        Check.due("methods were found", seen > 100, true);
        hidden.retainAll(open);
        Check.due("names both open and hidden: " + hidden, hidden.size(), 0);
    }
}
