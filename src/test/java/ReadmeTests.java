import java.io.ByteArrayOutputStream;
import java.io.IOException;
import java.io.PrintStream;
import java.lang.reflect.Method;
import java.lang.reflect.Modifier;
import java.net.URL;
import java.net.URLClassLoader;
import java.nio.charset.StandardCharsets;
import java.nio.file.Files;
import java.nio.file.Path;
import java.nio.file.Paths;
import java.util.ArrayList;
import java.util.Comparator;
import java.util.List;
import java.util.Map;
import java.util.TreeMap;
import java.util.regex.Matcher;
import java.util.regex.Pattern;
import java.util.stream.Stream;
import javax.tools.ToolProvider;

/** What README.md tells: its example, its tables of calls, and the files that it names. */
public final class ReadmeTests {
    private static final Pattern BLOCK = Pattern.compile("(?ms)^```(\\w+)\n(.*?)^```$");
    private static final Pattern ROW = Pattern.compile("(?m)^\\| `(\\w+)\\(([^)]*)\\)` \\| (.+?) \\|(.*)\\|$");
    private static final Pattern EXCEPTION = Pattern.compile("`(\\w+Exception)`: \\S");
    private static final Pattern TEST = Pattern.compile("`(\\w+Tests)`");

    private static int wrong;

    public static void main(String[] args) throws Exception {
        String text = Files.readString(Paths.get("README.md"), StandardCharsets.UTF_8);
        example(text);
        tables(text);
        files(text);
        System.out.println("README.md, " + wrong + " wrong");
        if (wrong != 0) {
            System.exit(1);
        }
    }

    private static void hold(boolean holds, String what) {
        if (!holds) {
            wrong++;
            System.out.println("does not hold: " + what);
        }
    }

    private static String block(String text, String kind) {
        Matcher found = BLOCK.matcher(text);
        while (found.find()) {
            if (found.group(1).equals(kind)) {
                return found.group(2);
            }
        }
        return "";
    }

    /** The example compiles with the class as it is here, and prints what stands below it. */
    private static void example(String text) throws Exception {
        Path place = Files.createTempDirectory("readme");
        try {
            Path file = Files.writeString(place.resolve("Golden.java"), block(text, "java"));
            int code = ToolProvider.getSystemJavaCompiler().run(null, null, null, "--release", "17", "-d",
                    place.toString(), "src/main/java/Shiftgate.java", file.toString());
            hold(code == 0, "the example compiles");
            String printed = code == 0 ? printedBy(place) : "";
            hold(printed.equals(block(text, "text")), "the example prints " + printed);
        } finally {
            empty(place);
        }
    }

    private static String printedBy(Path place) throws Exception {
        PrintStream screen = System.out;
        ByteArrayOutputStream bytes = new ByteArrayOutputStream();
        URL[] only = {place.toUri().toURL()};
        try (URLClassLoader loader = new URLClassLoader(only, ClassLoader.getPlatformClassLoader())) {
            System.setOut(new PrintStream(bytes, true));
            loader.loadClass("Golden").getMethod("main", String[].class).invoke(null, (Object) new String[0]);
        } finally {
            System.setOut(screen);
        }
        return bytes.toString(StandardCharsets.UTF_8).replace(System.lineSeparator(), "\n");
    }

    private static void empty(Path place) throws IOException {
        try (Stream<Path> all = Files.walk(place)) {
            for (Path one : all.sorted(Comparator.reverseOrder()).toArray(Path[]::new)) {
                Files.delete(one);
            }
        }
    }

    /** Each call has one row, with its parameters and with its exceptions in their order. */
    private static void tables(String text) {
        Map<String, String> rows = new TreeMap<>();
        Matcher found = ROW.matcher(text);
        while (found.find()) {
            String listed = found.group(2);
            int count = listed.isEmpty() ? 0 : listed.split(", ").length;
            String before = rows.put(found.group(1), count + " " + exceptionsOf(found.group(4)));
            hold(before == null, "one row: " + found.group(1));
        }
        Map<String, String> due = new TreeMap<>();
        for (Method method : Shiftgate.class.getDeclaredMethods()) {
            if (Modifier.isPublic(method.getModifiers())) {
                List<String> thrown = new ArrayList<>();
                for (Class<?> one : method.getExceptionTypes()) {
                    thrown.add(one.getSimpleName());
                }
                due.put(method.getName(), method.getParameterCount() + " " + thrown);
            }
        }
        for (String name : due.keySet()) {
            hold(due.get(name).equals(rows.get(name)), name + " has the row " + rows.get(name));
        }
        hold(rows.size() == due.size(), rows.size() + " rows");
    }

    private static List<String> exceptionsOf(String cell) {
        List<String> all = new ArrayList<>();
        Matcher found = EXCEPTION.matcher(cell);
        while (found.find()) {
            all.add(found.group(1));
        }
        hold(cell.split("Exception").length - 1 == all.size(), "each exception with its reason:" + cell);
        return all;
    }

    /** Each test of the project is named, and each test that is named is there. */
    private static void files(String text) throws IOException {
        List<String> named = new ArrayList<>();
        Matcher found = TEST.matcher(text);
        while (found.find()) {
            named.add(found.group(1) + ".java");
            hold(Files.exists(Paths.get("src/test/java", found.group(1) + ".java")), "there is " + found.group(1));
        }
        try (Stream<Path> all = Files.list(Paths.get("src/test/java"))) {
            for (Path one : all.toArray(Path[]::new)) {
                hold(named.contains(one.getFileName().toString()), "README.md names " + one);
            }
        }
        for (String file : new String[] {".ci/run", "src/main/java/Shiftgate.java", "src/test/help/Sentences.java"}) {
            hold(text.contains(file) && Files.exists(Paths.get(file)), "there is " + file);
        }
    }
}
