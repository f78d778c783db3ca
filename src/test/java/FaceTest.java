import java.io.IOException;
import java.lang.reflect.Constructor;
import java.lang.reflect.Field;
import java.lang.reflect.Method;
import java.lang.reflect.Modifier;
import java.nio.file.Files;
import java.nio.file.Path;
import java.util.Set;
import java.util.StringJoiner;
import java.util.TreeSet;

/** The class has the document's face and no more (LANGUAGE.md, rules 1, 5 and 11). */
public final class FaceTest {
    private static int wrong = 0;

    private static void must(boolean so, String what) {
        if (!so) {
            wrong++;
            System.out.println(what);
        }
    }

    /** The lines of the document's face, without names of arguments. */
    private static Set<String> documented() throws IOException {
        String text = Files.readString(Path.of(System.getProperty("project"), "..", "shared", "DOC.md"));
        String face = text.substring(text.indexOf("```java") + 7);
        face = face.substring(0, face.indexOf("```"));
        Set<String> out = new TreeSet<>();
        for (String line : face.split("\n")) {
            String said = line.strip();
            if (!said.endsWith(";")) continue;
            said = said.substring(0, said.length() - 1).replace("Long.MIN_VALUE", "" + Long.MIN_VALUE);
            out.add(said.replaceAll("\\b(int|long) \\w+(?=[,)])", "$1"));
        }
        return out;
    }

    private static String arguments(Class<?>[] types) {
        StringJoiner out = new StringJoiner(", ", "(", ")");
        for (Class<?> type : types) out.add(type.getName());
        return out.toString();
    }

    private static Set<String> built() throws IllegalAccessException {
        Set<String> out = new TreeSet<>();
        for (Constructor<?> c : PlyStacker.class.getDeclaredConstructors()) {
            if (shows(c.getModifiers())) out.add("public PlyStacker" + arguments(c.getParameterTypes()));
        }
        for (Method m : PlyStacker.class.getDeclaredMethods()) {
            if (shows(m.getModifiers())) {
                out.add(Modifier.toString(m.getModifiers()) + " " + m.getReturnType() + " " + m.getName()
                    + arguments(m.getParameterTypes()));
            }
        }
        for (Field f : PlyStacker.class.getDeclaredFields()) {
            if (shows(f.getModifiers())) {
                out.add(Modifier.toString(f.getModifiers()) + " " + f.getType() + " " + f.getName() + " = " + f.get(null));
            }
        }
        return out;
    }

    private static boolean shows(int modifiers) {
        return !Modifier.isPrivate(modifiers);
    }

    private static void within(Class<?> inside, Set<String> names) {
        must(Modifier.isStatic(inside.getModifiers()) && !Modifier.isPublic(inside.getModifiers())
            && !Modifier.isProtected(inside.getModifiers()), inside + " is not as rule 1 says");
        for (Method m : inside.getDeclaredMethods()) {
            must(!names.contains(m.getName()), m + " bears the name of a public method");
            must(m.getParameterCount() <= 7, m + " takes too much");
        }
        statics(inside);
    }

    private static void statics(Class<?> of) {
        int held = 0;
        for (Field f : of.getDeclaredFields()) {
            must(!Modifier.isStatic(f.getModifiers()) || Modifier.isFinal(f.getModifiers()), f + " is not final");
            if (!Modifier.isStatic(f.getModifiers())) held++;
        }
        must(held <= 20, of + " has too many fields");
    }

    public static void main(String[] args) throws IOException, IllegalAccessException {
        Set<String> due = documented();
        Set<String> got = built();
        must(due.size() == 59, "the document has " + due.size() + " lines of face");
        for (String line : due) must(got.contains(line), "there is no " + line);
        for (String line : got) must(due.contains(line), "the document has no " + line);
        must(Modifier.toString(PlyStacker.class.getModifiers()).equals("public final"), "not public final");
        statics(PlyStacker.class);
        Set<String> names = new TreeSet<>();
        for (Method m : PlyStacker.class.getDeclaredMethods()) {
            if (Modifier.isPublic(m.getModifiers())) names.add(m.getName());
        }
        for (Method m : PlyStacker.class.getDeclaredMethods()) {
            must(Modifier.isPublic(m.getModifiers()) || !names.contains(m.getName()), m + " bears a public name");
            must(m.getParameterCount() <= 7, m + " takes too much");
        }
        Class<?>[] insides = PlyStacker.class.getDeclaredClasses();
        must(insides.length <= 11, "too many classes");
        for (Class<?> inside : insides) within(inside, names);
        System.out.println(wrong == 0 ? "the face is the document's" : wrong + " things are not the document's");
        if (wrong != 0) System.exit(1);
    }
}
