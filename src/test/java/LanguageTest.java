import java.io.IOException;
import java.nio.file.Files;
import java.nio.file.Path;
import java.util.List;
import java.util.regex.Matcher;
import java.util.regex.Pattern;

/** What of LANGUAGE.md a look at the source can tell. */
public final class LanguageTest {
    private static int wrong = 0;

    private static void must(boolean so, String what) {
        if (!so) {
            wrong++;
            System.out.println(what);
        }
    }

    /** The source without comments, and without what stands in texts and signs. */
    private static String bare(String source) {
        return source.replaceAll("(?s)/\\*.*?\\*/", "").replaceAll("//[^\n]*", "")
            .replaceAll("\"[^\"\n]*\"", "\"\"").replaceAll("'[^'\n]+'", "' '");
    }

    private static void never(String code, String rule, String pattern) {
        Matcher m = Pattern.compile(pattern).matcher(code);
        while (m.find()) must(false, rule + ": " + m.group().strip());
    }

    private static void onlyThese(String code, String owner, List<String> allowed) {
        Matcher m = Pattern.compile("\\b" + owner + "\\.(\\w+)").matcher(code);
        while (m.find()) must(allowed.contains(m.group(1)), "rule 4: " + m.group());
    }

    private static void methodLengths(String code) {
        int start = -1;
        String name = "";
        String[] lines = code.split("\n");
        for (int k = 0; k < lines.length; k++) {
            Matcher head = Pattern.compile("^ {4,8}(public|private) .*\\b(\\w+)\\(.*\\) \\{$").matcher(lines[k]);
            if (head.find()) {
                start = k;
                name = head.group(2);
            } else if (start >= 0 && lines[k].matches(" {4,8}\\}")) {
                must(k - start < 60, "rule 11: " + name + " is long");
                start = -1;
            }
        }
    }

    public static void main(String[] args) throws IOException {
        Path file = Path.of(System.getProperty("project"), "src", "main", "java", "PlyStacker.java");
        String source = Files.readString(file);
        String code = bare(source);
        must(source.chars().allMatch(c -> c < 128), "a sign beyond 127");
        never(code, "package", "(?m)^package .*");
        never(code, "rule 4", "(?m)^import (?!java\\.util\\.(Arrays|ArrayList|List|Iterator);).*");
        never(code, "rule 6", "\\b(throw|throws|try|catch|finally|synchronized|assert)\\b");
        never(code, "rule 2", "->|::|\\bnew \\w+\\([^()]*\\) \\{");
        never(code, "rule 3", "\\b(Object|Long|Map|Set|BigInteger|double|float)\\b(?!\\.)");
        never(code, "rule 5", "\\bstatic \\{|\\bstatic (?!final|class)(\\w|\\[|\\])+ \\w+( =|;)");
        never(code, "rule 13", "\\b(Random|Thread|nanoTime|currentTimeMillis|File|System\\.(?!arraycopy)\\w+)\\b");
        never(code, "rule 10", "\"\" \\+|\\+ \"\"");
        never(code, "rule 4", "\\w+Exact\\b");
        onlyThese(code, "Math", List.of("abs", "max", "min", "floorDiv", "floorMod"));
        onlyThese(code, "Arrays", List.of("fill", "copyOf", "copyOfRange"));
        onlyThese(code, "Integer", List.of("bitCount", "compare", "max", "min", "MAX_VALUE", "MIN_VALUE"));
        onlyThese(code, "Long", List.of("MIN_VALUE", "MAX_VALUE", "compare", "max", "min"));
        never(code, "rule 9", "\\bwhile \\((true|1)\\)|\\bfor \\(;;\\)");
        methodLengths(code);
        System.out.println(wrong == 0 ? "no rule is seen broken" : wrong + " rules are broken");
        if (wrong != 0) System.exit(1);
    }
}
