import java.io.IOException;
import java.io.InputStream;
import java.lang.reflect.Method;
import java.lang.reflect.Modifier;
import java.nio.ByteBuffer;
import java.nio.charset.StandardCharsets;
import java.util.ArrayList;
import java.util.HashSet;
import java.util.List;
import java.util.Map;
import java.util.Set;
import java.util.TreeMap;
import java.util.TreeSet;

/**
 * Which methods the calls of the face reach, as the compiled class shows it: the exceptions that can
 * be thrown there are just those of the signature, calls go at most eight deep, one method calls
 * itself, and nothing of the library is called but what LANGUAGE.md lists.
 */
public final class ReachTests {
    private static final Set<String> LIBRARY = Set.of("Object.<init>", "Integer.bitCount", "Math.abs", "Arrays.fill");
    private static final Set<String> EXCEPTIONS = Set.of("IllegalStateException", "IllegalArgumentException",
            "IndexOutOfBoundsException", "ArithmeticException", "UnsupportedOperationException",
            "NoSuchElementException", "RuntimeException");

    private static final Map<String, Set<String>> calls = new TreeMap<>();
    private static final Map<String, Set<String>> thrown = new TreeMap<>();
    private static final Set<String> library = new TreeSet<>();
    private static int wrong;

    public static void main(String[] args) throws IOException {
        List<Class<?>> all = new ArrayList<>(List.of(Shiftgate.class.getDeclaredClasses()));
        all.add(Shiftgate.class);
        for (Class<?> one : all) {
            read(one);
        }
        exceptions();
        depth();
        library.removeAll(LIBRARY);
        hold(library.isEmpty(), "only what is listed: " + library);
        System.out.println(calls.size() + " methods and what they reach, " + wrong + " wrong");
        if (wrong != 0) {
            System.exit(1);
        }
    }

    private static void hold(boolean holds, String what) {
        if (!holds) {
            wrong++;
            System.out.println("does not hold: " + what);
        }
    }

    /** Notes the calls of each method of a class, as the file has them that the class was loaded from. */
    private static void read(Class<?> one) throws IOException {
        ByteBuffer file;
        try (InputStream bytes = one.getResourceAsStream("/" + one.getName() + ".class")) {
            file = ByteBuffer.wrap(bytes.readAllBytes());
        }
        file.position(8);
        Object[] pool = poolOf(file);
        file.position(file.position() + 6);
        int interfaces = file.getShort();
        file.position(file.position() + 2 * interfaces);
        for (int fields = file.getShort(); fields > 0; fields--) {
            file.position(file.position() + 6);
            skipAttributes(file);
        }
        for (int methods = file.getShort(); methods > 0; methods--) {
            file.position(file.position() + 2);
            String method = one.getName() + "." + pool[file.getShort()];
            file.position(file.position() + 2);
            hold(calls.put(method, new TreeSet<>()) == null, "one method of the name " + method);
            thrown.put(method, new TreeSet<>());
            readMethod(file, pool, method);
        }
    }

    /** Texts as they are; classes, names and methods as the places of what they are made of. */
    private static Object[] poolOf(ByteBuffer file) {
        Object[] pool = new Object[file.getShort()];
        for (int i = 1; i < pool.length; i++) {
            int tag = file.get();
            if (tag == 1) {
                byte[] text = new byte[file.getShort()];
                file.get(text);
                pool[i] = new String(text, StandardCharsets.UTF_8);
            } else if (tag == 7 || tag == 8) {
                pool[i] = new int[] {file.getShort()};
            } else if (tag >= 9 && tag <= 12) {
                pool[i] = new int[] {file.getShort(), file.getShort()};
            } else if (tag == 3 || tag == 4) {
                file.getInt();
            } else if (tag == 5 || tag == 6) {
                file.getLong();
                i++;
            } else {
                throw new IllegalStateException("no lambda, no method reference: tag " + tag);
            }
        }
        return pool;
    }

    private static void skipAttributes(ByteBuffer file) {
        for (int attributes = file.getShort(); attributes > 0; attributes--) {
            file.getShort();
            int length = file.getInt();
            file.position(file.position() + length);
        }
    }

    private static void readMethod(ByteBuffer file, Object[] pool, String method) {
        for (int attributes = file.getShort(); attributes > 0; attributes--) {
            boolean isCode = "Code".equals(pool[file.getShort()]);
            int length = file.getInt();
            int end = file.position() + length;
            if (isCode) {
                file.getInt();
                readCode(file, pool, method);
                hold(file.getShort() == 0, "no catch in " + method);
            }
            file.position(end);
        }
    }

    private static void readCode(ByteBuffer file, Object[] pool, String method) {
        int end = file.getInt() + file.position();
        int start = file.position();
        while (file.position() < end) {
            int at = file.position();
            int code = file.get(at) & 255;
            if (code >= 182 && code <= 185) {
                int[] called = (int[]) pool[file.getShort(at + 1)];
                String owner = "" + pool[((int[]) pool[called[0]])[0]];
                note(method, owner, owner.substring(owner.lastIndexOf('/') + 1) + "."
                        + pool[((int[]) pool[called[1]])[0]]);
            }
            file.position(at + lengthOf(file, at, at - start));
        }
    }

    /** How long an instruction is, by the tables of the machine's specification. */
    private static int lengthOf(ByteBuffer file, int at, int offset) {
        int code = file.get(at) & 255;
        if (code == 170 || code == 171) {
            int head = 4 - offset % 4;
            int first = file.getInt(at + head + 4);
            return code == 171 ? head + 8 + 8 * first : head + 16 + 4 * (file.getInt(at + head + 8) - first);
        }
        if (code == 16 || code == 18 || code >= 21 && code <= 25 || code >= 54 && code <= 58 || code == 169 || code == 188) {
            return 2;
        }
        if (code == 185 || code == 186 || code >= 200) {
            return 5;
        }
        if (code == 196 || code == 197) {
            return code == 196 && (file.get(at + 1) & 255) == 132 ? 6 : 4;
        }
        boolean isThree = code == 17 || code == 19 || code == 20 || code == 132 || code >= 153 && code <= 168
                || code >= 178 && code <= 184 || code == 187 || code == 189 || code == 192 || code == 193
                || code == 198 || code == 199;
        return isThree ? 3 : 1;
    }

    private static void note(String method, String owner, String called) {
        String name = owner.substring(owner.lastIndexOf('/') + 1);
        if (owner.startsWith("Shiftgate")) {
            calls.get(method).add(called);
        } else if (EXCEPTIONS.contains(name)) {
            thrown.get(method).add(name);
            hold(!method.endsWith("<init>"), "no throw in a constructor: " + method);
        } else {
            library.add(called);
        }
    }

    private static void exceptions() {
        int face = 0;
        for (Method method : Shiftgate.class.getDeclaredMethods()) {
            if (Modifier.isPublic(method.getModifiers())) {
                face++;
                Set<String> due = new TreeSet<>();
                for (Class<?> one : method.getExceptionTypes()) {
                    due.add(one.getSimpleName());
                }
                Set<String> got = new TreeSet<>();
                collect("Shiftgate." + method.getName(), new HashSet<>(), got);
                hold(got.equals(due), method.getName() + " can throw " + got + ", due is " + due);
            }
        }
        hold(face == 45, "45 calls: " + face);
        Set<String> made = new TreeSet<>();
        collect("Shiftgate.<init>", new HashSet<>(), made);
        hold(made.isEmpty(), "the constructor throws nothing: " + made);
    }

    private static void collect(String method, Set<String> seen, Set<String> got) {
        hold(thrown.containsKey(method), "a method that is read: " + method);
        if (seen.add(method) && thrown.containsKey(method)) {
            got.addAll(thrown.get(method));
            for (String called : calls.get(method)) {
                collect(called, seen, got);
            }
        }
    }

    private static void depth() {
        Set<String> recursive = new TreeSet<>();
        for (String method : calls.keySet()) {
            int found = depthOf(method, new ArrayList<>(), recursive);
            hold(found <= 8, "calls go " + found + " deep from " + method);
        }
        hold(recursive.equals(Set.of("Shiftgate$Reader.countOn")), "calls itself: " + recursive);
    }

    private static int depthOf(String method, List<String> open, Set<String> recursive) {
        if (open.contains(method)) {
            recursive.addAll(open.subList(open.indexOf(method), open.size()));
            return 0;
        }
        open.add(method);
        int deepest = 0;
        for (String called : calls.getOrDefault(method, Set.of())) {
            deepest = Math.max(deepest, depthOf(called, open, recursive));
        }
        open.remove(open.size() - 1);
        return deepest + 1;
    }
}
