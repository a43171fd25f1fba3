import java.lang.reflect.Constructor;
import java.lang.reflect.Field;
import java.lang.reflect.Member;
import java.lang.reflect.Method;
import java.lang.reflect.Modifier;
import java.nio.file.Files;
import java.nio.file.Path;
import java.util.Arrays;
import java.util.HashSet;
import java.util.Set;
import java.util.TreeSet;
import java.util.regex.Matcher;
import java.util.regex.Pattern;

/** The public face of the document, and rules of LANGUAGE.md that can be read off the source. */
public final class FaceTests {
    private static final Check check = new Check();
    private static final String[] FACE = {"type 1", "clear 0", "plan 0", "contact 2", "sends 5", "drops 1",
        "passes 1", "misses 1", "finds 1", "undo 0", "bundle 2", "hop 3", "tick 2", "asks 4", "largest 4",
        "worst 0", "sees 3", "forget 0", "unseen 0", "keep 1", "back 1", "count 1"};
    private static final String[] BARRED = {"throw", "throws", "try", "catch", "synchronized", "assert",
        "import", "package", "protected", "volatile", "native", "transient", "System", "Thread", "Object",
        "hashCode", "toString", "equals", "var", "yield", "->", "::", "@"};

    public static void main(String[] args) throws Exception {
        constants();
        members();
        classesInside();
        source();
        check.close();
    }

    private static void constants() {
        check.about("constants");
        check.due("BAD", ContactWays.BAD, -1);
        check.due("STATE", ContactWays.STATE, -2);
        check.due("FULL", ContactWays.FULL, -3);
        check.due("NONE", ContactWays.NONE, -9);
    }

    private static boolean isOpen(Member member) {
        return !Modifier.isPrivate(member.getModifiers()) && !member.isSynthetic();
    }

    private static void members() {
        check.about("face");
        Class<?> x = ContactWays.class;
        int modifiers = x.getModifiers();
        check.due("public and final", Modifier.isPublic(modifiers) && Modifier.isFinal(modifiers) ? 1 : 0, 1);
        Set<String> due = new TreeSet<>(Arrays.asList(FACE));
        Set<String> got = new TreeSet<>();
        Set<String> names = new HashSet<>();
        for (Method m : x.getDeclaredMethods()) {
            if (isOpen(m)) {
                got.add(m.getName() + " " + m.getParameterCount());
                names.add(m.getName());
                boolean fits = Modifier.toString(m.getModifiers()).equals("public")
                        && m.getReturnType() == int.class
                        && Arrays.stream(m.getParameterTypes()).allMatch(t -> t == int.class);
                check.due(m + " is public and of int", fits ? 1 : 0, 1);
            }
        }
        check.due("methods", got.toString(), due.toString());
        for (Method m : x.getDeclaredMethods()) {
            boolean clash = !isOpen(m) && names.contains(m.getName());
            check.due("a private " + m.getName(), clash ? 1 : 0, 0);
        }
        Set<String> fields = new TreeSet<>();
        for (Field f : x.getDeclaredFields()) {
            if (isOpen(f)) {
                fields.add(Modifier.toString(f.getModifiers()) + " " + f.getType() + " " + f.getName());
            }
        }
        String word = "public static final int ";
        check.due("fields", fields.toString(),
                "[" + word + "BAD, " + word + "FULL, " + word + "NONE, " + word + "STATE]");
        Constructor<?>[] constructors = x.getDeclaredConstructors();
        check.due("constructors", constructors.length, 1);
        check.due("constructor", constructors[0].toString(), "public ContactWays()");
    }

    private static void classesInside() {
        check.about("classes inside");
        Set<String> face = new HashSet<>();
        for (String m : FACE) {
            face.add(m.substring(0, m.indexOf(' ')));
        }
        Class<?>[] inside = ContactWays.class.getDeclaredClasses();
        check.due("at most twelve classes", inside.length <= 11 ? 1 : 0, 1);
        for (Class<?> c : inside) {
            check.due(c.getSimpleName() + " is static", Modifier.isStatic(c.getModifiers()) ? 1 : 0, 1);
            int fields = 0;
            for (Field f : c.getDeclaredFields()) {
                boolean isStatic = Modifier.isStatic(f.getModifiers());
                fields += isStatic ? 0 : 1;
                boolean settled = !isStatic || Modifier.isFinal(f.getModifiers());
                check.due(c.getSimpleName() + "." + f.getName() + " is no static state", settled ? 1 : 0, 1);
            }
            check.due(c.getSimpleName() + " has at most twenty fields", fields <= 20 ? 1 : 0, 1);
            for (Method m : c.getDeclaredMethods()) {
                boolean clash = face.contains(m.getName());
                check.due(c.getSimpleName() + "." + m.getName() + " clashes", clash ? 1 : 0, 0);
                boolean few = m.getParameterCount() <= 7;
                check.due(c.getSimpleName() + "." + m.getName() + " takes at most seven", few ? 1 : 0, 1);
            }
        }
    }

    /** The source without comments and without what stands in quotes. */
    private static String bare(String text) {
        return text.replaceAll("(?s)/\\*.*?\\*/", "").replaceAll("//[^\n]*", "")
                .replaceAll("'[^']*'", "0").replaceAll("\"[^\"\n]*\"", "0");
    }

    private static void source() throws Exception {
        check.about("source");
        String text = Files.readString(Path.of("src/main/java/ContactWays.java"));
        check.due("signs above 127", text.chars().filter(sign -> sign > 127).count(), 0);
        String bare = bare(text);
        for (String word : BARRED) {
            boolean isWord = Character.isLetter(word.charAt(0));
            Matcher m = Pattern.compile(isWord ? "\\b" + word + "\\b" : Pattern.quote(word)).matcher(bare);
            check.due("'" + word + "' stands in it", m.find() ? 1 : 0, 0);
        }
        int length = 0;
        for (String line : bare.split("\n")) {
            length = line.matches("    (    )?}") ? 0 : length + (line.isBlank() ? 0 : 1);
            if (length == 75) {
                check.due("a method of over 60 lines that ends with: " + line.trim(), 1, 0);
            }
        }
    }
}
