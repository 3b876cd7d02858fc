import java.lang.reflect.InvocationTargetException;
import java.lang.reflect.Method;
import java.lang.reflect.Modifier;
import java.util.Arrays;
import java.util.Comparator;
import java.util.Map;
import java.util.TreeMap;

/**
 * Any arguments in any state: whatever is handed to a call, it answers, or throws just what its
 * signature says by a throw statement; the machine itself throws nothing, and the object stays sound.
 */
public final class AnyArgumentTests {
    private static final int RUNS = 600;
    private static final int MOST_CALLS = 512;
    private static final int[] NUMBERS = {Integer.MIN_VALUE, Integer.MIN_VALUE + 1, -65536, -2, -1, 0, 0, 0, 1, 1, 1, 2,
        2, 3, 4, 5, 6, 7, 8, 9, 10, 11, 12, 13, 23, 24, 25, 31, 32, 33, 40, 41, 63, 64, 255, 256, 1023, 1024, 9999, 10000,
        65536, 1 << 30, Integer.MAX_VALUE - 1, Integer.MAX_VALUE};
    private static final char[] SIGNS = {'a', 'a', 'b', 'b', 'c', 'L', 'R', ',', 'd', '`', 'A', 0, 255, 'a' + 256, 65535};

    private static final String[] TEXTS = {"", "ab", "bb,aba", "a,b,c", "abcabc", "abab", "LR,RL", "R,R", "RLLR",
        "LLLLLLLLLLLL,RLRRRRRRRRRR", "RLLLLLLLLLLL", "LLLLLLLLLLLLR", "a,", ",", "L,R,L", "cccc", "ccccc"};

    private static long seed = 99;
    private static int asked;
    private static int wrong;
    private static final Map<String, int[]> answered = new TreeMap<>();
    private static final Map<String, int[]> refused = new TreeMap<>();

    public static void main(String[] args) throws IllegalAccessException {
        Method[] face = Arrays.stream(Shiftgate.class.getDeclaredMethods())
                .filter(method -> Modifier.isPublic(method.getModifiers()))
                .sorted(Comparator.comparing(Method::getName)).toArray(Method[]::new);
        for (int run = 0; run < RUNS; run++) {
            oneRun(face, run);
        }
        for (Method method : face) {
            String name = method.getName();
            hold(answered.containsKey(name), name + " never answered");
            hold(refused.containsKey(name) == method.getExceptionTypes().length > 0, name + " never refused");
        }
        System.out.println(asked + " calls with any arguments, " + wrong + " wrong");
        if (wrong != 0) {
            System.exit(1);
        }
    }

    private static void hold(boolean holds, String what) {
        if (!holds) {
            wrong++;
            System.out.println("does not hold: " + what);
        }
    }

    private static int pick(int bound) {
        seed = seed * 6364136223846793005L + 1442695040888963407L;
        return (int) ((seed >>> 33) % bound);
    }

    private static void oneRun(Method[] face, int run) throws IllegalAccessException {
        Shiftgate gate = new Shiftgate();
        int mildness = run % 4;
        for (int i = 0; i < MOST_CALLS - 1; i++) {
            if (pick(12) == 0 && i < MOST_CALLS - 32) {
                i += retype(gate, TEXTS[pick(TEXTS.length)]);
            }
            ask(gate, face[pick(face.length)], mildness);
        }
        hold(gate.isSound(), "sound behind run " + run);
    }

    /** Types a text in place of the buffer, and tells how many calls that took. */
    private static int retype(Shiftgate gate, String text) {
        gate.clear();
        for (char sign : text.toCharArray()) {
            gate.type(sign);
        }
        return text.length() + 1;
    }

    private static Object[] someArguments(Method method, int mildness) {
        Class<?>[] types = method.getParameterTypes();
        Object[] all = new Object[types.length];
        for (int i = 0; i < types.length; i++) {
            boolean isMild = pick(4) < mildness;
            if (types[i] == int.class) {
                all[i] = isMild ? pick(4) : NUMBERS[pick(NUMBERS.length)];
            } else if (types[i] == char.class) {
                all[i] = isMild ? (char) ('a' + pick(2)) : SIGNS[pick(SIGNS.length)];
            } else {
                all[i] = pick(3) > 0;
            }
        }
        return all;
    }

    private static void ask(Shiftgate gate, Method method, int mildness) throws IllegalAccessException {
        Object[] arguments = someArguments(method, mildness);
        asked++;
        try {
            method.invoke(gate, arguments);
            answered.computeIfAbsent(method.getName(), name -> new int[1])[0]++;
        } catch (InvocationTargetException e) {
            refused.computeIfAbsent(method.getName(), name -> new int[1])[0]++;
            judge(method, arguments, e.getCause());
        }
    }

    private static void judge(Method method, Object[] arguments, Throwable thrown) {
        String call = method.getName() + Arrays.toString(arguments);
        hold(Arrays.asList(method.getExceptionTypes()).contains(thrown.getClass()), call + " threw " + thrown);
        StackTraceElement[] trace = thrown.getStackTrace();
        boolean isOwn = trace.length > 0 && trace[0].getClassName().startsWith("Shiftgate");
        String text = "" + thrown.getMessage();
        hold(isOwn && !text.startsWith("/ by") && !text.startsWith("Index "), call + " let the machine throw " + thrown);
    }
}
