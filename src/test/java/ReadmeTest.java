import java.io.IOException;
import java.lang.reflect.Method;
import java.lang.reflect.Modifier;
import java.nio.file.Files;
import java.nio.file.Path;
import java.util.HashMap;
import java.util.List;
import java.util.Map;
import java.util.regex.Matcher;
import java.util.regex.Pattern;
import java.util.stream.Collectors;
import java.util.stream.Stream;

/** What README.md says is so: its examples answer as it says, and it names every call, every test and files that are there. */
public final class ReadmeTest {
    private static final Path PROJECT = Path.of(System.getProperty("project", "."));
    private static final Pattern CALL = Pattern.compile("(\\w)\\.(\\w+)\\(([^)]*)\\);\\s*// (-?\\d+).*");

    private static int asked = 0;
    private static int wrong = 0;

    private static void must(boolean so, String what) {
        asked++;
        if (!so) {
            wrong++;
            System.out.println(what);
        }
    }

    /** The lines of all blocks of a language. */
    private static List<String> block(String readme, String language) {
        return Pattern.compile("(?s)```" + language + "\n(.*?)```").matcher(readme).results()
            .flatMap(m -> m.group(1).lines()).collect(Collectors.toList());
    }

    private static int[] numbers(String listed) {
        return listed.isEmpty() ? new int[0] : Stream.of(listed.split(", ")).mapToInt(Integer::parseInt).toArray();
    }

    private static long answer(PlyStacker object, String name, int[] given) throws ReflectiveOperationException {
        Class<?>[] types = new Class<?>[given.length];
        Object[] values = new Object[given.length];
        for (int k = 0; k < given.length; k++) {
            types[k] = int.class;
            values[k] = given[k];
        }
        return ((Number) PlyStacker.class.getMethod(name, types).invoke(object, values)).longValue();
    }

    /** Every line of the examples: a new object, or a call with its answer behind it. Tells what x was fed. */
    private static String examples(List<String> lines) throws ReflectiveOperationException {
        Map<String, PlyStacker> objects = new HashMap<>();
        StringBuilder fed = new StringBuilder();
        for (String line : lines) {
            if (line.matches("PlyStacker \\w = new PlyStacker\\(\\);")) {
                objects.put(line.substring(11, 12), new PlyStacker());
                continue;
            }
            Matcher m = CALL.matcher(line);
            must(m.matches(), "not understood: " + line);
            if (!m.matches()) continue;
            int[] given = numbers(m.group(3));
            long got = answer(objects.get(m.group(1)), m.group(2), given);
            must(got == Long.parseLong(m.group(4)), line + " answered " + got);
            boolean feeds = m.group(1).equals("x") && m.group(2).equals("feed");
            for (int k = 0; feeds && k < 20; k++) fed.append((char) (given[k / 4] >>> 24 - 8 * (k % 4) & 255));
        }
        return fed.toString();
    }

    private static void namesAll(String readme) throws IOException {
        for (Method m : PlyStacker.class.getDeclaredMethods()) {
            if (Modifier.isPublic(m.getModifiers())) must(readme.contains("`" + m.getName() + "()`"), "no word of " + m.getName());
        }
        try (Stream<Path> files = Files.list(PROJECT.resolve("src/test/java"))) {
            files.map(file -> file.getFileName().toString()).filter(name -> name.endsWith(".java"))
                .forEach(name -> must(readme.contains("`" + name.replace(".java", "") + "`"), "no word of " + name));
        }
    }

    private static void filesAreThere(String readme) {
        Matcher m = Pattern.compile("`((?:src|\\.ci|NOTES|\\.\\./shared)[\\w/.]*)`").matcher(readme);
        int found = 0;
        for (; m.find(); found++) must(Files.exists(PROJECT.resolve(m.group(1))), "there is no " + m.group(1));
        must(found > 5, "no files named");
    }

    public static void main(String[] args) throws IOException, ReflectiveOperationException {
        String readme = Files.readString(PROJECT.resolve("README.md"));
        String fed = examples(block(readme, "java"));
        String text = String.join("", block(readme, "text"));
        must(text.length() == 103 && fed.startsWith(text), "the text is not what is fed: " + fed);
        namesAll(readme);
        filesAreThere(readme);
        System.out.println(wrong == 0 ? asked + " things are as README.md says" : wrong + " things are not");
        if (wrong != 0) System.exit(1);
    }
}
