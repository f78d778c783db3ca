import java.io.IOException;
import java.nio.file.Files;
import java.nio.file.Path;
import java.util.ArrayList;
import java.util.List;
import java.util.Set;
import java.util.TreeSet;
import java.util.regex.Matcher;
import java.util.regex.Pattern;
import java.util.stream.Collectors;
import java.util.stream.Stream;

/**
 * The table src/test/sentences.txt has every sentence of the document, in its order, and below each sentence tests
 * that are there, for a promise's sentence one of that promise; and each test of a Boundary..Test is in it.
 */
public final class SentencesTest {
    private static final Path PROJECT = Path.of(System.getProperty("project", "."));
    /** For what no test can ask: what the document says of itself, and what it promises nothing of. */
    private static final List<String> NO_TEST = List.of("-");

    private record Sentence(String head, String text) { }

    private record Row(Sentence sentence, List<String> tests) { }

    private static int wrong = 0;

    private static void must(boolean so, String what) {
        if (!so) {
            wrong++;
            System.out.println(what);
        }
    }

    /** The document without its face, which FaceTest reads, cut behind each full stop. */
    private static List<Sentence> documented() throws IOException {
        String text = Files.readString(PROJECT.resolve("../shared/DOC.md")).replaceAll("(?s)```java.*?```", "")
            .replaceAll("```\\w*", "");
        List<Sentence> out = new ArrayList<>();
        String head = "";
        for (String line : text.split("\n")) {
            if (line.startsWith("#")) {
                head = line.replaceFirst("^#+ ", "");
                continue;
            }
            for (String piece : line.strip().split("(?<=[^ .])\\. (?=[^ .])")) {
                String said = piece.strip().replaceFirst("\\.$", "");
                boolean numeral = said.matches("[IV]+");
                if (!said.isEmpty() && !numeral) out.add(new Sentence(head, said));
            }
        }
        return out;
    }

    private static List<Row> table() throws IOException {
        List<Row> out = new ArrayList<>();
        String head = "";
        for (String line : Files.readAllLines(PROJECT.resolve("src/test/sentences.txt"))) {
            if (line.startsWith("# ")) {
                head = line.substring(2);
            } else if (line.startsWith(" ")) {
                out.get(out.size() - 1).tests.addAll(List.of(line.strip().split(" +")));
            } else if (!line.isBlank()) {
                out.add(new Row(new Sentence(head, line), new ArrayList<>()));
            }
        }
        return out;
    }

    /** Tests of the project as the table names them: p45_thereAreEight, PromisesTest.p45, FaceTest. */
    private static Set<String> tests() throws IOException {
        Set<String> out = new TreeSet<>();
        try (Stream<Path> files = Files.list(PROJECT.resolve("src/test/java"))) {
            for (Path file : files.collect(Collectors.toList())) {
                if (!file.toString().endsWith("Test.java")) continue;
                String name = file.getFileName().toString().replace(".java", "");
                out.add(name);
                Matcher m = Pattern.compile("static void (p\\d+(?:_\\w+)?)\\(\\) \\{").matcher(Files.readString(file));
                while (m.find()) out.add(name.startsWith("Boundary") ? m.group(1) : name + "." + m.group(1));
            }
        }
        return out;
    }

    private static boolean bearsNumber(Row row) {
        Matcher head = Pattern.compile("Promise (\\d+): .*").matcher(row.sentence.head);
        if (!head.matches()) return true;
        int promise = Integer.parseInt(head.group(1));
        String own = String.format("PromisesTest\\.p%d|p%02d_\\w+", promise, promise);
        return row.tests.stream().anyMatch(test -> test.matches(own));
    }

    public static void main(String[] args) throws IOException {
        List<Sentence> due = documented();
        List<Row> table = table();
        List<Sentence> told = table.stream().map(Row::sentence).collect(Collectors.toList());
        for (Sentence s : due) must(told.contains(s), "not in the table: " + s);
        for (Sentence s : told) must(due.contains(s), "not in the document: " + s);
        must(told.equals(due), "not in the document's order");
        Set<String> there = tests();
        Set<String> named = new TreeSet<>();
        for (Row row : table) {
            must(!row.tests.isEmpty(), "no test of " + row.sentence);
            if (row.tests.equals(NO_TEST)) continue;
            for (String test : row.tests) must(there.contains(test), "there is no " + test + " for " + row.sentence);
            must(bearsNumber(row), "no test of the promise itself: " + row.sentence);
            named.addAll(row.tests);
        }
        for (String test : there) must(!test.matches("p\\d\\d_.*") || named.contains(test), "of no sentence: " + test);
        System.out.println(wrong == 0 ? due.size() + " sentences, " + named.size() + " tests" : wrong + " things are wanting");
        if (wrong != 0) System.exit(1);
    }
}
