import java.io.IOException;
import java.lang.reflect.Constructor;
import java.lang.reflect.Field;
import java.lang.reflect.Method;
import java.lang.reflect.Modifier;
import java.nio.charset.StandardCharsets;
import java.nio.file.Files;
import java.nio.file.Paths;
import java.util.ArrayList;
import java.util.Arrays;
import java.util.HashSet;
import java.util.List;
import java.util.Set;
import java.util.TreeSet;
import java.util.regex.Matcher;
import java.util.regex.Pattern;

/** The rules of LANGUAGE.md that can be seen in the class and in its text, and the room that a run takes. */
public final class LanguageTests {
    private static final String[] FACE = {
        "int type(char) IllegalArgumentException IllegalStateException",
        "int clear()",
        "int shift(int,int) IllegalArgumentException IllegalStateException",
        "boolean edge(int,int,char,int,boolean) IndexOutOfBoundsException IllegalArgumentException",
        "int forbid(int) IllegalArgumentException UnsupportedOperationException IllegalStateException",
        "int gaps(int) IllegalArgumentException IllegalStateException",
        "int states(int) IndexOutOfBoundsException",
        "int words(int,int) IndexOutOfBoundsException IllegalArgumentException",
        "boolean isWord(int) IndexOutOfBoundsException UnsupportedOperationException",
        "int points(int,int) IndexOutOfBoundsException IllegalArgumentException",
        "int parts(int) IndexOutOfBoundsException",
        "int period(int,int) IndexOutOfBoundsException IllegalArgumentException NoSuchElementException",
        "boolean isIrreducible(int) IndexOutOfBoundsException",
        "boolean isRight(int) IndexOutOfBoundsException",
        "int futures(int) IndexOutOfBoundsException UnsupportedOperationException",
        "boolean areSame(int,int) IndexOutOfBoundsException UnsupportedOperationException",
        "long series(int,int) IndexOutOfBoundsException IllegalArgumentException UnsupportedOperationException",
        "long growth(int,int,boolean) IndexOutOfBoundsException IllegalArgumentException UnsupportedOperationException",
        "int code(int) IllegalArgumentException IllegalStateException",
        "char set(int,char,char,char) IndexOutOfBoundsException IllegalArgumentException",
        "int slide(int) IndexOutOfBoundsException UnsupportedOperationException",
        "char signAt(int) NoSuchElementException",
        "int image(int,int) IndexOutOfBoundsException UnsupportedOperationException IllegalStateException",
        "boolean isOneToOne(int,int,int) IndexOutOfBoundsException IllegalArgumentException UnsupportedOperationException",
        "int matrix(int,int) IllegalArgumentException IllegalStateException",
        "int put(int,int,int,int) IndexOutOfBoundsException IllegalArgumentException",
        "int get(int,int,int) IndexOutOfBoundsException",
        "int split(int,int,int,int) IndexOutOfBoundsException IllegalArgumentException UnsupportedOperationException IllegalStateException",
        "boolean areLike(int,int,int,int,int) IndexOutOfBoundsException IllegalArgumentException UnsupportedOperationException",
        "long group(int,int) IndexOutOfBoundsException UnsupportedOperationException NoSuchElementException",
        "long zeta(int,int) IndexOutOfBoundsException UnsupportedOperationException NoSuchElementException",
        "long trace(int,int) IndexOutOfBoundsException IllegalArgumentException UnsupportedOperationException",
        "int compare() UnsupportedOperationException",
        "boolean isGreatest() UnsupportedOperationException",
        "boolean forces(int,int) IllegalArgumentException",
        "boolean isOnto(int) IllegalArgumentException",
        "int orphan(int) IllegalArgumentException NoSuchElementException",
        "boolean isOneToOneOn(int,int) IllegalArgumentException",
        "int ringPeriod(int,int,int) IllegalArgumentException",
        "int becomes(char) IllegalArgumentException UnsupportedOperationException",
        "int complexity(int) IllegalArgumentException",
        "long checksum()",
        "float liveShare() ArithmeticException",
        "double meanEdges() ArithmeticException",
        "boolean isSound()",
    };

    private static int wrong;

    public static void main(String[] args) throws IOException {
        face();
        insides();
        text();
        room();
        System.out.println("the rules and the room, " + wrong + " wrong");
        if (wrong != 0) {
            System.exit(1);
        }
    }

    private static void hold(boolean holds, String what) {
        if (!holds) {
            wrong++;
            System.out.println("does not hold: " + what);
        }
    }

    private static void face() {
        Class<?> gate = Shiftgate.class;
        hold(Modifier.isPublic(gate.getModifiers()) && Modifier.isFinal(gate.getModifiers()), "public and final");
        Set<String> due = new TreeSet<>(Arrays.asList(FACE));
        Set<String> got = new TreeSet<>();
        for (Method method : gate.getDeclaredMethods()) {
            if (!Modifier.isPrivate(method.getModifiers())) {
                got.add(signature(method));
                hold(Modifier.isPublic(method.getModifiers()) && !Modifier.isStatic(method.getModifiers()),
                        "public: " + method);
            }
        }
        hold(got.equals(due), "the face: " + got);
        Constructor<?>[] made = gate.getDeclaredConstructors();
        hold(made.length == 1 && made[0].getParameterCount() == 0 && Modifier.isPublic(made[0].getModifiers()),
                "one constructor");
        for (Field field : gate.getDeclaredFields()) {
            hold(Modifier.isPrivate(field.getModifiers()), "private: " + field);
        }
    }

    private static String signature(Method method) {
        StringBuilder text = new StringBuilder(method.getReturnType().getSimpleName());
        text.append(' ').append(method.getName()).append('(');
        for (int i = 0; i < method.getParameterCount(); i++) {
            text.append(i > 0 ? "," : "").append(method.getParameterTypes()[i].getSimpleName());
        }
        text.append(')');
        for (Class<?> thrown : method.getExceptionTypes()) {
            text.append(' ').append(thrown.getSimpleName());
        }
        return text.toString();
    }

    private static void insides() {
        Set<String> names = new HashSet<>();
        for (String line : FACE) {
            names.add(line.substring(line.indexOf(' ') + 1, line.indexOf('(')));
        }
        List<Class<?>> all = new ArrayList<>(Arrays.asList(Shiftgate.class.getDeclaredClasses()));
        hold(all.size() <= 11, "some twelve classes");
        for (Class<?> inside : all) {
            hold(Modifier.isStatic(inside.getModifiers()) && !Modifier.isPublic(inside.getModifiers()),
                    "static: " + inside);
        }
        all.add(Shiftgate.class);
        for (Class<?> one : all) {
            int fields = 0;
            for (Field field : one.getDeclaredFields()) {
                boolean isStatic = Modifier.isStatic(field.getModifiers());
                hold(!isStatic || Modifier.isFinal(field.getModifiers()), "final: " + field);
                fields += isStatic ? 0 : 1;
            }
            hold(fields <= 20, "twenty fields: " + one);
            for (Method method : one.getDeclaredMethods()) {
                hold(method.getParameterCount() <= 7, "seven parameters: " + method);
                hold(Modifier.isPublic(method.getModifiers()) || !names.contains(method.getName()),
                        "no name of the face: " + method);
            }
        }
    }

    private static void text() throws IOException {
        byte[] bytes = Files.readAllBytes(Paths.get("src/main/java/Shiftgate.java"));
        for (byte one : bytes) {
            hold(one == '\n' || one >= 32 && one < 127, "plain signs");
        }
        String text = new String(bytes, StandardCharsets.US_ASCII);
        String bare = text.replaceAll("(?s)/\\*.*?\\*/", "").replaceAll("//[^\n]*", "")
                .replaceAll("\"[^\"\n]*\"", "\"\"");
        for (String word : new String[] {"->", "::", "\\btry\\b", "\\bcatch\\b", "\\bfinally\\b", "\\bsynchronized\\b",
            "\\bassert\\b", "\\bpackage\\b", "\\bnative\\b", "\\bvar\\b", "\\bRandom\\b", "System\\.[^a]", "\\bThread\\b",
            "Exact\\b", "hashCode", "\\btoString\\b", "\"\" *\\+", "\\+ *\"\"", "\\bwhile *\\(true", "for *\\(;"}) {
            hold(!Pattern.compile(word).matcher(bare).find(), "none of " + word);
        }
        Set<String> imports = new TreeSet<>();
        Matcher found = Pattern.compile("(?m)^import ([\\w.]+);").matcher(bare);
        while (found.find()) {
            imports.add(found.group(1));
        }
        imports.removeAll(Arrays.asList("java.util.Arrays", "java.util.NoSuchElementException"));
        hold(imports.isEmpty(), "no imports but two: " + imports);
        Set<String> library = new TreeSet<>();
        found = Pattern.compile("\\b(Math|Integer|Long|Arrays|System|String|Character)\\.(\\w+)").matcher(bare);
        while (found.find()) {
            library.add(found.group());
        }
        library.removeAll(Arrays.asList("Math.abs", "Math.min", "Math.max", "Integer.bitCount", "Arrays.fill"));
        hold(library.isEmpty(), "nothing of the library but what is listed: " + library);
        int start = -1;
        String[] lines = text.split("\n");
        for (int i = 0; i < lines.length; i++) {
            if (lines[i].matches(" {4}( {4})?(public|private) .*[({,]$") && !lines[i].contains(" class ")) {
                start = i;
            }
            if (lines[i].matches(" {4}( {4})?}") && start >= 0) {
                hold(i - start < 60, "short: " + lines[start]);
                start = -1;
            }
        }
    }

    /** What 512 of each call may take at most, so that any run stays far below the room. */
    private static void room() {
        com.sun.management.ThreadMXBean meter =
                (com.sun.management.ThreadMXBean) java.lang.management.ManagementFactory.getThreadMXBean();
        long id = Thread.currentThread().getId();
        runAll(new Shiftgate());
        long before = meter.getThreadAllocatedBytes(id);
        Shiftgate gate = new Shiftgate();
        long made = meter.getThreadAllocatedBytes(id) - before;
        hold(made < 100_000, "a new object takes " + made + " bytes");
        runAll(gate);
        long taken = meter.getThreadAllocatedBytes(id) - before;
        hold(taken < 200_000, "2500 calls of all kinds take " + taken + " bytes");
    }

    private static void runAll(Shiftgate x) {
        for (int i = 0; i < 8; i++) {
            x.shift(12, 3);
            x.matrix(5, 5);
            for (int s = 0; s < 36; s++) {
                x.edge(i, s / 3, (char) ('a' + s % 3), (s * 5 + i) % 12, true);
            }
            for (int s = 0; s < 25; s++) {
                x.put(i, s / 5, s % 5, s % 10);
            }
        }
        x.code(3);
        for (int i = 0; i < 60; i++) {
            x.type('a');
            x.isWord(0);
            x.clear();
            x.states(0);
            x.words(0, 7);
            x.points(0, 4);
            x.parts(0);
            x.period(0, 0);
            x.isIrreducible(0);
            x.isRight(0);
            x.areSame(0, 0);
            x.series(0, 5);
            x.growth(0, 5, true);
            x.isOneToOne(0, 0, 3);
            x.areLike(0, 1, 2, 3, 4);
            x.group(0, 3);
            x.zeta(0, 3);
            x.trace(0, 3);
            x.forces(3, 5);
            x.isOnto(30);
            x.isOneToOneOn(15, 10);
            x.ringPeriod(30, 10, 1);
            x.complexity(5);
            x.checksum();
            x.liveShare();
            x.meanEdges();
            x.isSound();
        }
    }
}
