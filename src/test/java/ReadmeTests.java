import java.io.IOException;
import java.lang.reflect.Method;
import java.lang.reflect.Modifier;
import java.net.URL;
import java.net.URLClassLoader;
import java.nio.file.Files;
import java.nio.file.Path;
import java.util.ArrayList;
import java.util.List;
import java.util.Map;
import java.util.TreeMap;
import java.util.regex.Matcher;
import java.util.regex.Pattern;
import javax.tools.ToolProvider;

/** README.md: its example is compiled and run as it stands there, and its tables name the whole face. */
public final class ReadmeTests {
    private static final Check check = new Check();

    public static void main(String[] args) throws Exception {
        String page = Files.readString(Path.of("README.md"));
        example(page);
        methods(page);
        constants(page);
        properties(page);
        check.close();
    }

    private static void example(String page) throws Exception {
        check.about("the example");
        Matcher block = Pattern.compile("(?s)```java\n(.*?)```").matcher(page);
        check.due("there is one", block.find() ? 1 : 0, 1);
        String code = block.group(1);
        Matcher line = Pattern.compile("int (\\w+) = ways\\.(.*?); *// (-?\\d+):").matcher(code);
        List<String> names = new ArrayList<>();
        List<String> calls = new ArrayList<>();
        List<Integer> due = new ArrayList<>();
        while (line.find()) {
            names.add(line.group(1));
            calls.add(line.group(2));
            due.add(Integer.parseInt(line.group(3)));
        }
        check.due("each call but type() tells its answer", names.size() + 1, code.split("ways\\.").length - 1);
        int[] got = run(code, names);
        for (int i = 0; i < got.length; i++) {
            check.due(calls.get(i), got[i], due.get(i));
        }
    }

    /** Runs the code and returns what these variables hold then. */
    private static int[] run(String code, List<String> names) throws Exception {
        Path folder = Files.createTempDirectory("readme");
        Path file = folder.resolve("ReadmeExample.java");
        Files.writeString(file, "public final class ReadmeExample {\n    public static int[] run() {\n" + code
                + "        return new int[] {" + String.join(", ", names) + "};\n    }\n}\n");
        int failed = ToolProvider.getSystemJavaCompiler().run(null, null, null, "-d", folder.toString(),
                "-cp", System.getProperty("java.class.path"), file.toString());
        check.due("compiles", failed, 0);
        int[] got = new int[0];
        if (failed == 0) {
            try (URLClassLoader loader = new URLClassLoader(new URL[] {folder.toUri().toURL()})) {
                got = (int[]) loader.loadClass("ReadmeExample").getMethod("run").invoke(null);
            }
        }
        remove(folder);
        return got;
    }

    private static void remove(Path folder) throws IOException {
        try (var files = Files.list(folder)) {
            for (Path file : files.toList()) {
                Files.delete(file);
            }
        }
        Files.delete(folder);
    }

    private static void methods(String page) {
        check.about("the tables of methods");
        Map<String, Integer> told = new TreeMap<>();
        Matcher row = Pattern.compile("(?m)^\\| `(\\w+)\\(([^)]*)\\)` \\|").matcher(page);
        while (row.find()) {
            int parameters = row.group(2).isEmpty() ? 0 : row.group(2).split(", ").length;
            check.due(row.group(1) + " is told once", told.containsKey(row.group(1)) ? 1 : 0, 0);
            told.put(row.group(1), parameters);
        }
        Map<String, Integer> face = new TreeMap<>();
        for (Method m : ContactWays.class.getDeclaredMethods()) {
            if (Modifier.isPublic(m.getModifiers())) {
                face.put(m.getName(), m.getParameterCount());
            }
        }
        check.due("methods and how many arguments they take", told.toString(), face.toString());
    }

    private static void constants(String page) {
        check.about("the table of constants");
        int[] values = {ContactWays.BAD, ContactWays.STATE, ContactWays.FULL, ContactWays.NONE};
        String[] names = {"BAD", "STATE", "FULL", "NONE"};
        for (int i = 0; i < names.length; i++) {
            check.due(names[i], page.contains("\n| `" + names[i] + "` | " + values[i] + " |") ? 1 : 0, 1);
        }
    }

    /** A cell stands there for each what that the method takes, and for no other. */
    private static void properties(String page) {
        check.about("the table of what");
        ContactWays x = Check.planned("c 0 1 0 9 1 0;");
        x.sends(0, 1, 1, 50, 0);
        Matcher row = Pattern.compile("(?m)^\\| (\\d) \\|(.*)\\|(.*)\\|(.*)\\|(.*)\\|$").matcher(page);
        int rows = 0;
        while (row.find()) {
            int what = Integer.parseInt(row.group(1));
            check.due("row", what, rows);
            rows++;
            told("contact " + what, row.group(2), x.contact(0, what));
            told("bundle " + what, row.group(3), x.bundle(0, what));
            told("hop " + what, row.group(4), x.hop(0, 0, what));
            told("count " + what, row.group(5), x.count(what));
        }
        check.due("rows", rows, 9);
    }

    private static void told(String call, String cell, int answer) {
        check.due(call + " is told", cell.isBlank() ? 0 : 1, answer == ContactWays.BAD ? 0 : 1);
    }
}
