import java.nio.file.Files;
import java.nio.file.Path;
import java.util.regex.Matcher;
import java.util.regex.Pattern;

/** What LANGUAGE.md rules out and a look at the words can find; run where the project's root is. */
public final class SourceTest {
    public static void main(String[] args) throws Exception {
        String source = Files.readString(Path.of("src/main/java/HowDeep.java"));
        String bare = source.replaceAll("(?s)/\\*.*?\\*/", " ").replaceAll("//[^\n]*", " ").replaceAll("\"[^\"\n]*\"", "\"\"");
        for (String word : new String[] {"import", "package", "throw", "throws", "try", "catch", "finally", "synchronized",
            "assert", "native", "volatile", "transient", "float", "double", "System\\.out", "Thread", "Random", "hashCode",
            "toString", "Object", "instanceof", "goto", "strictfp", "var", "protected"}) {
            Due.is("the word " + word, times(bare, "\\b" + word + "\\b"), 0);
        }
        for (String sign : new String[] {"->", "::", "Exact\\(", "static\\s*\\{", "@", "nanoTime", "currentTime"}) {
            Due.is("the sign " + sign, times(bare, sign), 0);
        }
        Due.is("texts joined by +", times(bare, "\"\\s*\\+|\\+\\s*\""), 0);
        for (int i = 0; i < source.length(); i++) {
            if (source.charAt(i) > 126) Due.is("a sign above 126 at " + i, source.charAt(i), 0);
        }
        int longest = 0;
        int from = 0;
        int line = 0;
        for (String s : source.split("\n")) {
            line++;
            if (s.matches("( {4}| {8})[A-Za-z].*\\) \\{")) from = line;
            if (s.matches("( {4}| {8})\\}")) longest = Math.max(longest, line - from + 1);
        }
        Due.holds("methods of some sixty lines, not " + longest, longest <= 60 && longest > 3);
        Due.is("made outside of constructors and fields", madeInMethods(bare), 0);
        Due.end("SourceTest");
    }

    private static int times(String s, String pattern) {
        Matcher m = Pattern.compile(pattern).matcher(s);
        int n = 0;
        while (m.find()) n++;
        return n;
    }

    /** A new object on a line that is neither a field's nor one of HowDeep's constructor. */
    private static int madeInMethods(String bare) {
        int n = 0;
        for (String s : bare.split("\n")) {
            if (s.contains("new ") && !s.matches(" {4,8}(private )?(static )?final .*|        [a-z]+ = new [A-Z].*")) n++;
        }
        return n;
    }
}
