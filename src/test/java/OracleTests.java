import java.math.BigInteger;
import java.util.ArrayDeque;
import java.util.ArrayList;
import java.util.Arrays;
import java.util.HashMap;
import java.util.HashSet;
import java.util.List;
import java.util.Map;
import java.util.NoSuchElementException;
import java.util.Set;
import java.util.TreeSet;

/**
 * Long runs of calls, made by a fixed sequence of numbers, on a Shiftgate and on a plain model that
 * follows the document's words with the Java library, by other ways than the program's.
 */
public final class OracleTests {
    private static final int RUNS = 2400;
    private static final int MOST_CALLS = 512;
    private static final int LAST_CALLS = 47;

    private static long seed = 1;
    private static int wrong = 0;
    private static int calls = 0;
    private static int asked = 0;
    private static final Map<String, int[]> seen = new HashMap<>();

    private static int pick(int bound) {
        seed = seed * 6364136223846793005L + 1442695040888963407L;
        return (int) ((seed >>> 33) % bound);
    }

    private static int from(int least, int most) {
        return least + pick(most - least + 1);
    }

    public static void main(String[] args) {
        for (int run = 0; run < RUNS && wrong < 20; run++) {
            seed = 1000003L * run + 17;
            oneRun(run);
        }
        checkRules();
        checkCoverage();
        System.out.println(calls + " calls against the model, " + wrong + " wrong");
        if (wrong != 0) {
            System.exit(1);
        }
    }

    /** Each call has been answered, and has thrown each exception of its signature. */
    private static void checkCoverage() {
        for (java.lang.reflect.Method method : Shiftgate.class.getMethods()) {
            if (method.getDeclaringClass() != Shiftgate.class) {
                continue;
            }
            String name = method.getName();
            boolean isAnswered = seen.containsKey(name + " answers") || seen.containsKey(name + " true");
            if (!isAnswered) {
                tell(-1, name, "nothing", "an answer");
            }
            for (Class<?> thrown : method.getExceptionTypes()) {
                String due = "throws." + thrown.getSimpleName();
                if (!seen.containsKey(name + " " + due)) {
                    tell(-1, name, "never " + due, "such a call");
                }
            }
        }
    }

    private static void checkRules() {
        for (int each = 0; each < 256; each++) {
            Shiftgate gate = new Shiftgate();
            int rule = each;
            int due = Model.bruteOrphan(rule);
            String want = due == 0 ? "throws.NoSuchElementException" : "" + due;
            String got = ask(() -> gate.orphan(rule));
            if (!want.equals(got)) {
                tell(-1, "orphan(" + rule + ")", got, want);
            }
            for (int cells = 1; cells <= 10; cells++) {
                int n = cells;
                Set<String> images = new HashSet<>();
                for (int ring = 0; ring < 1 << n; ring++) {
                    images.add(Model.stepRing(rule, Model.ringText(ring, n)));
                }
                String one = "" + (images.size() == 1 << n);
                String answer = ask(() -> gate.isOneToOneOn(rule, n));
                if (!one.equals(answer)) {
                    tell(-1, "isOneToOneOn(" + rule + ", " + n + ")", answer, one);
                }
            }
        }
    }

    interface Call {
        Object run();
    }

    private static String ask(Call call) {
        try {
            return "" + call.run();
        } catch (RuntimeException e) {
            return "throws." + e.getClass().getSimpleName();
        }
    }

    private static void tell(int run, String call, String got, String want) {
        wrong++;
        System.out.println("run " + run + ": " + call + " answered " + got + ", due is " + want);
    }

    /** Asks both, unless an object has been asked as often as it may be. */
    private static void both(int run, String name, Call real, Call model) {
        if (asked >= MOST_CALLS) {
            return;
        }
        asked++;
        String got = ask(real);
        String want = ask(model);
        calls++;
        String kind = name.substring(0, name.indexOf('(')) + " " + (want.startsWith("throws") || want.equals("true") || want.equals("false") ? want : "answers");
        seen.computeIfAbsent(kind, k -> new int[1])[0]++;
        if (!got.equals(want)) {
            tell(run, name, got, want);
        }
    }

    private static void oneRun(int run) {
        Shiftgate x = new Shiftgate();
        Model m = new Model();
        asked = 0;
        int style = run % 8;
        if (style < 5) {
            grow(run, x, m, style);
        } else if (style < 7) {
            growWide(run, x, m);
            growLike(run, x, m);
        } else if (run % 16 == 7) {
            growFull(run, x, m);
        }
        while (asked < MOST_CALLS - 2 * LAST_CALLS) {
            oneCall(run, x, m);
        }
        // a full buffer, and what reads it
        for (int i = 0; i < 42; i++) {
            char sign = (char) ('a' + pick(2));
            both(run, "type(" + sign + ")", () -> x.type(sign), () -> m.type(sign));
        }
        both(run, "signAt(39)", () -> x.signAt(39), () -> m.signAt(39));
        both(run, "isWord(0)", () -> x.isWord(0), () -> m.isWord(0));
        both(run, "slide(0)", () -> x.slide(0), () -> m.slide(0));
        both(run, "signAt(38)", () -> x.signAt(38), () -> m.signAt(38));
        both(run, "signAt(39)", () -> x.signAt(39), () -> m.signAt(39));
    }

    /** As many shifts, codes and matrices as there may be, and one more. */
    private static void growFull(int run, Shiftgate x, Model m) {
        for (int i = 0; i <= 8; i++) {
            int gaps = from(1, 255);
            int letters = 2 + pick(2);
            int rows = from(1, 5);
            both(run, "gaps(" + gaps + ")", () -> x.gaps(gaps), () -> m.gaps(gaps));
            both(run, "code(" + letters + ")", () -> x.code(letters), () -> m.code(letters));
            both(run, "matrix(" + rows + ")", () -> x.matrix(rows, rows), () -> m.matrix(rows, rows));
        }
    }

    /** Makes some shifts, codes and matrices ahead, that there is something to ask. */
    private static void grow(int run, Shiftgate x, Model m, int style) {
        for (int s = 0; s < 4; s++) {
            int states = style == 0 ? from(1, 3) : style == 1 ? from(2, 6) : from(4, 12);
            int letters = style == 2 ? 3 : 2 + pick(2);
            both(run, "shift(" + states + ", " + letters + ")", () -> x.shift(states, letters),
                    () -> m.shift(states, letters));
            int edges = style == 3 ? states + pick(4) : pick(3 * states) + states / 2;
            for (int e = 0; e < edges; e++) {
                addEdge(run, x, m, pick(5), states, letters);
            }
        }
        for (int c = 0; c < 2; c++) {
            int letters = 2 + pick(2);
            both(run, "code()", () -> x.code(letters), () -> m.code(letters));
            for (int e = 0; e < letters * letters; e++) {
                oneSet(run, x, m, c, letters);
            }
        }
        for (int a = 0; a < 3; a++) {
            int rows = from(1, 5);
            int columns = pick(5) == 0 ? from(1, 5) : rows;
            int number = a;
            both(run, "matrix()", () -> x.matrix(rows, columns), () -> m.matrix(rows, columns));
            for (int e = 0; e < rows * columns; e++) {
                int r = pick(rows);
                int c = pick(columns);
                int v = style == 4 ? pick(10) : pick(3);
                both(run, "put()", () -> x.put(number, r, c, v), () -> m.put(number, r, c, v));
            }
        }
    }

    /** Big graphs, in which words lead to many sets, and images with many states. */
    private static void growWide(int run, Shiftgate x, Model m) {
        for (int s = 0; s < 5; s++) {
            int states = from(8, 12);
            int letters = s < 3 ? 2 : 3;
            int shift = s;
            both(run, "shift()", () -> x.shift(states, letters), () -> m.shift(states, letters));
            int more = pick(4);
            for (int e = 0; e < states * letters + more; e++) {
                int f = e % states;
                int t = pick(states);
                char l = (char) ('a' + (e / states) % letters);
                both(run, "edge()", () -> x.edge(shift, f, l, t, true), () -> m.edge(shift, f, l, t, true));
            }
        }
        for (int c = 0; c < 2; c++) {
            int letters = 2 + c;
            both(run, "code()", () -> x.code(letters), () -> m.code(letters));
            for (int e = 0; e < 9; e++) {
                oneSet(run, x, m, c, letters);
            }
        }
        both(run, "image(0, 0)", () -> x.image(0, 0), () -> m.image(0, 0));
        for (int s = 0; s < 6; s++) {
            int first = s;
            both(run, "futures(" + s + ")", () -> x.futures(first), () -> m.futures(first));
            both(run, "series(" + s + ")", () -> x.series(first, 7), () -> m.series(first, 7));
            both(run, "growth(" + s + ", 6, true)", () -> x.growth(first, 6, true), () -> m.growth(first, 6, true));
            for (int t = 0; t < 6; t++) {
                int second = t;
                both(run, "areSame(" + s + ", " + t + ")", () -> x.areSame(first, second),
                        () -> m.areSame(first, second));
            }
        }
    }

    /** R and S, RS and SR, and asks whether these are like; sometimes with a number changed. */
    private static void growLike(int run, Shiftgate x, Model m) {
        int p = from(1, 4);
        int q = from(1, 4);
        int[][] r = new int[p][q];
        int[][] s = new int[q][p];
        for (int i = 0; i < p * q; i++) {
            r[i / q][i % q] = pick(3) / 2;
            s[i / p][i % p] = pick(3);
        }
        int[][] a = times(r, s);
        int[][] b = times(s, r);
        int[][][] all = {a, b, r, s};
        for (int n = 0; n < 4; n++) {
            int number = n;
            int[][] t = all[n];
            both(run, "matrix()", () -> x.matrix(t.length, t[0].length), () -> m.matrix(t.length, t[0].length));
            for (int i = 0; i < t.length * t[0].length; i++) {
                int row = i / t[0].length;
                int column = i % t[0].length;
                both(run, "put()", () -> x.put(number, row, column, t[row][column]),
                        () -> m.put(number, row, column, t[row][column]));
            }
        }
        for (int turn = 0; turn < 4; turn++) {
            int lag = turn == 0 ? 1 : from(1, 4);
            both(run, "areLike(0, 1, 2, 3)", () -> x.areLike(0, 1, 2, 3, lag), () -> m.areLike(0, 1, 2, 3, lag));
            both(run, "areLike(0, 0, 0, 0)", () -> x.areLike(0, 0, 0, 0, lag), () -> m.areLike(0, 0, 0, 0, lag));
            both(run, "areLike(1, 0, 3, 2)", () -> x.areLike(1, 0, 3, 2, lag), () -> m.areLike(1, 0, 3, 2, lag));
            int change = pick(4);
            both(run, "put()", () -> x.put(change, 0, 0, 1), () -> m.put(change, 0, 0, 1));
        }
    }

    private static int[][] times(int[][] a, int[][] b) {
        int[][] c = new int[a.length][b[0].length];
        for (int i = 0; i < c.length; i++) {
            for (int j = 0; j < c[0].length; j++) {
                for (int k = 0; k < b.length; k++) {
                    c[i][j] += a[i][k] * b[k][j];
                }
            }
        }
        return c;
    }

    private static void addEdge(int run, Shiftgate x, Model m, int shift, int states, int letters) {
        int s = pick(8) == 0 ? from(-1, 8) : shift;
        int f = pick(states);
        int t = pick(states);
        char l = (char) ('a' + pick(letters));
        boolean there = pick(6) != 0;
        both(run, "edge(" + s + ", " + f + ", " + l + ", " + t + ", " + there + ")", () -> x.edge(s, f, l, t, there),
                () -> m.edge(s, f, l, t, there));
    }

    private static void oneSet(int run, Shiftgate x, Model m, int c, int letters) {
        char one = (char) ('a' + pick(letters));
        char two = (char) ('a' + pick(letters));
        char gives = (char) ('a' + pick(letters));
        both(run, "set(" + c + ", " + one + ", " + two + ", " + gives + ")", () -> x.set(c, one, two, gives),
                () -> m.set(c, one, two, gives));
    }

    private static void typeText(int run, Shiftgate x, Model m, String text) {
        both(run, "clear()", x::clear, m::clear);
        for (char sign : text.toCharArray()) {
            both(run, "type(" + sign + ")", () -> x.type(sign), () -> m.type(sign));
        }
    }

    private static String someText() {
        StringBuilder text = new StringBuilder();
        int kind = pick(6);
        int length = pick(3) == 0 ? pick(20) : pick(7);
        String signs = kind == 0 ? "ab" : kind == 1 ? "abc" : kind == 2 ? "LR" : kind == 3 ? "LR,"
                : kind == 4 ? "aabb," : "abcLR,";
        if (kind == 3) {
            for (int i = from(1, 13); i > 0; i--) {
                text.append(signs.charAt(pick(2)));
            }
            text.append(pick(9) == 0 ? "" : ",");
            String head = text.toString();
            if (pick(2) == 0 && head.length() > 2) {
                text.append(head, 0, pick(head.length() - 1));
            }
            length = pick(7);
            signs = pick(9) == 0 ? "LR," : "LR";
        }
        if (kind == 4) {
            for (int w = from(1, 3); w > 0; w--) {
                for (int i = from(1, 3); i > 0; i--) {
                    text.append((char) ('a' + pick(2)));
                }
                text.append(w > 1 ? "," : "");
            }
            length = pick(8) == 0 ? 1 : 0;
        }
        for (int i = 0; i < length; i++) {
            text.append(signs.charAt(pick(signs.length())));
        }
        return text.toString();
    }

    private static void oneCall(int run, Shiftgate x, Model m) {
        int s = pick(12) == 0 ? from(-1, 8) : pick(m.shifts.isEmpty() ? 2 : m.shifts.size());
        int s2 = pick(12) == 0 ? from(-1, 8) : pick(m.shifts.isEmpty() ? 2 : m.shifts.size());
        int c = pick(12) == 0 ? from(-1, 6) : pick(m.codes.isEmpty() ? 2 : m.codes.size());
        int a = pick(12) == 0 ? from(-1, 8) : pick(m.matrices.isEmpty() ? 2 : m.matrices.size());
        int b = pick(m.matrices.isEmpty() ? 2 : m.matrices.size());
        boolean yes = pick(2) == 0;
        switch (pick(48)) {
            case 0: typeText(run, x, m, someText()); break;
            case 1: {
                char sign = (char) (pick(4) == 0 ? pick(256) : "abcLR,".charAt(pick(6)));
                both(run, "type(" + sign + ")", () -> x.type(sign), () -> m.type(sign)); break;
            }
            case 2: both(run, "clear()", x::clear, m::clear); break;
            case 3: {
                int n = from(0, 13);
                int l = from(1, 4);
                if (pick(3) == 0) both(run, "shift(" + n + ", " + l + ")", () -> x.shift(n, l), () -> m.shift(n, l));
                break;
            }
            case 4: case 5: {
                addEdge(run, x, m, s, from(1, 14), 3); break;
            }
            case 6: {
                typeText(run, x, m, someText());
                int l = pick(6) == 0 ? from(1, 4) : 2 + pick(2);
                both(run, "forbid(" + l + ") " + m.buffer, () -> x.forbid(l), () -> m.forbid(l)); break;
            }
            case 7: {
                int g = pick(8) == 0 ? from(-1, 257) : from(1, 255);
                if (pick(3) == 0) both(run, "gaps(" + g + ")", () -> x.gaps(g), () -> m.gaps(g));
                break;
            }
            case 8: both(run, "states(" + s + ")", () -> x.states(s), () -> m.states(s)); break;
            case 9: {
                int l = pick(6) == 0 ? from(-1, 11) : pick(20) == 0 ? 8 : from(0, 6);
                both(run, "words(" + s + ", " + l + ")", () -> x.words(s, l), () -> m.words(s, l)); break;
            }
            case 10: {
                typeText(run, x, m, someText());
                both(run, "isWord(" + s + ") " + m.buffer, () -> x.isWord(s), () -> m.isWord(s)); break;
            }
            case 11: {
                int l = pick(8) == 0 ? from(0, 8) : from(1, 5);
                both(run, "points(" + s + ", " + l + ")", () -> x.points(s, l), () -> m.points(s, l)); break;
            }
            case 12: both(run, "parts(" + s + ")", () -> x.parts(s), () -> m.parts(s)); break;
            case 13: case 14: {
                int n = from(-1, 13);
                both(run, "period(" + s + ", " + n + ")", () -> x.period(s, n), () -> m.period(s, n)); break;
            }
            case 15: both(run, "isIrreducible(" + s + ")", () -> x.isIrreducible(s), () -> m.isIrreducible(s)); break;
            case 16: both(run, "isRight(" + s + ")", () -> x.isRight(s), () -> m.isRight(s)); break;
            case 17: both(run, "futures(" + s + ")", () -> x.futures(s), () -> m.futures(s)); break;
            case 18: case 19:
                both(run, "areSame(" + s + ", " + s2 + ")", () -> x.areSame(s, s2), () -> m.areSame(s, s2)); break;
            case 20: {
                int p = pick(3) == 0 ? from(-1, 25) : from(0, 13);
                both(run, "series(" + s + ", " + p + ")", () -> x.series(s, p), () -> m.series(s, p)); break;
            }
            case 21: {
                int n = from(-1, 7);
                both(run, "growth(" + s + ", " + n + ", " + yes + ")", () -> x.growth(s, n, yes),
                        () -> m.growth(s, n, yes)); break;
            }
            case 22: {
                int l = from(1, 4);
                if (pick(3) == 0) both(run, "code(" + l + ")", () -> x.code(l), () -> m.code(l));
                break;
            }
            case 23: oneSet(run, x, m, c, 3); break;
            case 24: {
                typeText(run, x, m, someText());
                both(run, "slide(" + c + ") " + m.buffer, () -> x.slide(c), () -> m.slide(c));
                for (int i = 0; i <= m.buffer.length() && i < 4; i++) {
                    int at = i;
                    both(run, "signAt(" + at + ")", () -> x.signAt(at), () -> m.signAt(at));
                }
                break;
            }
            case 25: {
                int i = from(-1, 41);
                both(run, "signAt(" + i + ")", () -> x.signAt(i), () -> m.signAt(i)); break;
            }
            case 26: case 27:
                both(run, "image(" + c + ", " + s + ")", () -> x.image(c, s), () -> m.image(c, s)); break;
            case 28: case 29: {
                int l = pick(5) == 0 ? from(0, 6) : from(1, 4);
                both(run, "isOneToOne(" + c + ", " + s + ", " + l + ")", () -> x.isOneToOne(c, s, l),
                        () -> m.isOneToOne(c, s, l)); break;
            }
            case 30: {
                int r = from(0, 6);
                int k = pick(2) == 0 ? r : from(0, 6);
                if (pick(3) == 0) both(run, "matrix(" + r + ", " + k + ")", () -> x.matrix(r, k), () -> m.matrix(r, k));
                break;
            }
            case 31: {
                int r = from(-1, 5);
                int k = from(-1, 5);
                int v = pick(5) == 0 ? from(-1, 10) : from(0, 3);
                both(run, "put(" + a + ", " + r + ", " + k + ", " + v + ")", () -> x.put(a, r, k, v),
                        () -> m.put(a, r, k, v)); break;
            }
            case 32: {
                int r = from(-1, 5);
                int k = from(-1, 5);
                both(run, "get(" + a + ", " + r + ", " + k + ")", () -> x.get(a, r, k), () -> m.get(a, r, k)); break;
            }
            case 33: {
                int r = from(-1, 4);
                int k = from(-1, 4);
                int v = from(-1, 3);
                both(run, "split(" + a + ", " + r + ", " + k + ", " + v + ")", () -> x.split(a, r, k, v),
                        () -> m.split(a, r, k, v));
                for (int i = 0; i < 36; i++) {
                    int p = i / 6;
                    int q = i % 6;
                    both(run, "get(" + a + ", " + p + ", " + q + ")", () -> x.get(a, p, q), () -> m.get(a, p, q));
                }
                break;
            }
            case 34: {
                int third = pick(3) == 0 ? pick(8) : a;
                int fourth = pick(3) == 0 ? pick(8) : a;
                int other = pick(2) == 0 ? a : b;
                int lag = from(0, 5);
                both(run, "areLike(" + a + ", " + other + ", " + third + ", " + fourth + ", " + lag + ")",
                        () -> x.areLike(a, other, third, fourth, lag), () -> m.areLike(a, other, third, fourth, lag));
                break;
            }
            case 35: {
                int i = from(-1, 5);
                both(run, "group(" + a + ", " + i + ")", () -> x.group(a, i), () -> m.group(a, i)); break;
            }
            case 36: {
                int i = from(-1, 6);
                both(run, "zeta(" + a + ", " + i + ")", () -> x.zeta(a, i), () -> m.zeta(a, i)); break;
            }
            case 37: {
                int i = from(0, 9);
                both(run, "trace(" + a + ", " + i + ")", () -> x.trace(a, i), () -> m.trace(a, i)); break;
            }
            case 38: {
                typeText(run, x, m, someText());
                both(run, "compare() " + m.buffer, x::compare, m::compare); break;
            }
            case 39: {
                typeText(run, x, m, someText());
                both(run, "isGreatest() " + m.buffer, x::isGreatest, m::isGreatest); break;
            }
            case 40: {
                int p = pick(2) == 0 ? from(-1, 40) : pick(2) == 0 ? from(1, 10001) : 1 << pick(14);
                int q = pick(2) == 0 ? from(-1, 40) : pick(2) == 0 ? from(1, 10001) : 1 << pick(14);
                both(run, "forces(" + p + ", " + q + ")", () -> x.forces(p, q), () -> m.forces(p, q)); break;
            }
            case 41: {
                int r = from(-1, 256);
                both(run, "isOnto(" + r + ")", () -> x.isOnto(r), () -> m.isOnto(r));
                both(run, "orphan(" + r + ")", () -> x.orphan(r), () -> m.orphan(r)); break;
            }
            case 42: {
                int r = from(-1, 256);
                int n = from(0, 11);
                both(run, "isOneToOneOn(" + r + ", " + n + ")", () -> x.isOneToOneOn(r, n),
                        () -> m.isOneToOneOn(r, n)); break;
            }
            case 43: {
                int r = from(-1, 256);
                int n = from(0, 11);
                int ring = from(-1, (1 << n) + 1);
                both(run, "ringPeriod(" + r + ", " + n + ", " + ring + ")", () -> x.ringPeriod(r, n, ring),
                        () -> m.ringPeriod(r, n, ring)); break;
            }
            case 44: {
                typeText(run, x, m, someText());
                char l = "abcdL".charAt(pick(20) == 0 ? pick(5) : pick(3));
                both(run, "becomes(" + l + ") " + m.buffer, () -> x.becomes(l), () -> m.becomes(l)); break;
            }
            case 45: {
                int l = from(0, 9);
                both(run, "complexity(" + l + ")", () -> x.complexity(l), () -> m.complexity(l)); break;
            }
            case 46: {
                both(run, "checksum()", x::checksum, m::checksum);
                both(run, "liveShare()", x::liveShare, m::liveShare); break;
            }
            default: {
                both(run, "meanEdges()", x::meanEdges, m::meanEdges);
                both(run, "isSound()", x::isSound, () -> true); break;
            }
        }
    }

    /** What the document says, as plainly as can be. */
    private static final class Model {
        static final class G {
            int n;
            int k;
            boolean[][][] e;

            G(int n, int k) {
                this.n = n;
                this.k = k;
                e = new boolean[k][n][n];
            }

            boolean joins(int s, int t) {
                for (int l = 0; l < k; l++) {
                    if (e[l][s][t]) return true;
                }
                return false;
            }

            boolean[] live() {
                boolean[] on = ways(true);
                boolean[] back = ways(false);
                boolean[] live = new boolean[n];
                for (int s = 0; s < n; s++) live[s] = on[s] && back[s];
                return live;
            }

            /** Whether there is a way of as many edges as there are states, on or back. */
            boolean[] ways(boolean on) {
                boolean[] has = new boolean[n];
                Arrays.fill(has, true);
                for (int i = 0; i <= n; i++) {
                    boolean[] next = new boolean[n];
                    for (int s = 0; s < n; s++) {
                        for (int t = 0; t < n; t++) {
                            if ((on ? joins(s, t) : joins(t, s)) && has[t]) next[s] = true;
                        }
                    }
                    has = next;
                }
                return has;
            }

            Set<Integer> liveStates() {
                Set<Integer> set = new TreeSet<>();
                boolean[] live = live();
                for (int s = 0; s < n; s++) if (live[s]) set.add(s);
                return set;
            }

            Set<Integer> read(Set<Integer> from, int letter, boolean[] live) {
                Set<Integer> set = new TreeSet<>();
                for (int s : from) {
                    for (int t = 0; t < n; t++) if (live[t] && e[letter][s][t]) set.add(t);
                }
                return set;
            }
        }

        static final class C {
            int k;
            char[][] g = new char[3][3];

            C(int k) {
                this.k = k;
                for (char[] r : g) Arrays.fill(r, 'a');
            }
        }

        String buffer = "";
        List<G> shifts = new ArrayList<>();
        List<C> codes = new ArrayList<>();
        List<int[][]> matrices = new ArrayList<>();
        String[] rows = {"a", "b", "c"};

        static void range(int v, int low, int high) {
            if (v < low || v > high) throw new IllegalArgumentException();
        }

        G g(int i) {
            if (i < 0 || i >= shifts.size()) throw new IndexOutOfBoundsException();
            return shifts.get(i);
        }

        C c(int i) {
            if (i < 0 || i >= codes.size()) throw new IndexOutOfBoundsException();
            return codes.get(i);
        }

        int[][] m(int i) {
            if (i < 0 || i >= matrices.size()) throw new IndexOutOfBoundsException();
            return matrices.get(i);
        }

        int type(char s) {
            if ("abcLR,".indexOf(s) < 0) throw new IllegalArgumentException();
            if (buffer.length() == 40) throw new IllegalStateException();
            buffer += s;
            return buffer.length();
        }

        int clear() {
            int n = buffer.length();
            buffer = "";
            return n;
        }

        int add(G g) {
            if (shifts.size() == 8) throw new IllegalStateException();
            shifts.add(g);
            return shifts.size() - 1;
        }

        int shift(int n, int k) {
            range(n, 1, 12);
            range(k, 2, 3);
            return add(new G(n, k));
        }

        boolean edge(int i, int f, char l, int t, boolean there) {
            G g = g(i);
            int x = l - 'a';
            if (x < 0 || x >= g.k || f < 0 || t < 0 || f >= g.n || t >= g.n) throw new IllegalArgumentException();
            boolean was = g.e[x][f][t];
            g.e[x][f][t] = there;
            return was;
        }

        int forbid(int k) {
            range(k, 2, 3);
            String[] words = buffer.isEmpty() ? new String[0] : buffer.split(",", -1);
            for (String w : words) {
                if (!w.matches(k == 2 ? "[ab]{1,3}" : "[abc]{1,3}")) throw new UnsupportedOperationException();
            }
            G g = new G(k * k, k);
            for (int x = 0; x < k; x++) for (int y = 0; y < k; y++) for (int z = 0; z < k; z++) {
                String xyz = "" + (char) ('a' + x) + (char) ('a' + y) + (char) ('a' + z);
                boolean bad = false;
                for (String w : words) bad |= xyz.contains(w);
                if (!bad) g.e[z][k * x + y][k * y + z] = true;
            }
            int r = add(g);
            buffer = "";
            return r;
        }

        int gaps(int bits) {
            range(bits, 1, 255);
            int greatest = 31 - Integer.numberOfLeadingZeros(bits);
            G g = new G(greatest + 1, 2);
            for (int s = 0; s <= greatest; s++) {
                if (s < greatest) g.e[0][s][s + 1] = true;
                if ((bits >> s & 1) == 1) g.e[1][s][0] = true;
            }
            return add(g);
        }

        int states(int i) {
            return g(i).liveStates().size();
        }

        Set<String> allWords(G g, int n) {
            boolean[] live = g.live();
            Map<String, Set<Integer>> now = new HashMap<>();
            if (!g.liveStates().isEmpty()) now.put("", g.liveStates());
            for (int i = 0; i < n; i++) {
                Map<String, Set<Integer>> next = new HashMap<>();
                for (Map.Entry<String, Set<Integer>> w : now.entrySet()) {
                    for (int l = 0; l < g.k; l++) {
                        Set<Integer> set = g.read(w.getValue(), l, live);
                        if (!set.isEmpty()) next.put(w.getKey() + (char) ('a' + l), set);
                    }
                }
                now = next;
            }
            return now.keySet();
        }

        int words(int i, int n) {
            G g = g(i);
            range(n, 0, 10);
            return allWords(g, n).size();
        }

        static boolean only(String text, int k) {
            return text.matches(k == 2 ? "[ab]*" : "[abc]*");
        }

        boolean isWord(int i) {
            G g = g(i);
            if (!only(buffer, g.k)) throw new UnsupportedOperationException();
            return isWordOf(g, buffer);
        }

        static boolean isWordOf(G g, String text) {
            boolean[] live = g.live();
            Set<Integer> set = g.liveStates();
            for (char l : text.toCharArray()) set = g.read(set, l - 'a', live);
            return !set.isEmpty();
        }

        /** The words whose endless row is a point: those that can be read over and over, n+1 times. */
        Set<String> repeated(G g, int n) {
            Set<String> found = new TreeSet<>();
            for (String w : allWords(g, n)) {
                StringBuilder text = new StringBuilder();
                for (int r = 0; r <= g.n; r++) text.append(w);
                if (isWordOf(g, text.toString())) found.add(w);
            }
            return found;
        }

        int points(int i, int n) {
            G g = g(i);
            range(n, 1, 7);
            return repeated(g, n).size();
        }

        boolean leads(G g, int s, int t) {
            boolean[] met = new boolean[g.n];
            ArrayDeque<Integer> open = new ArrayDeque<>();
            open.add(s);
            while (!open.isEmpty()) {
                int u = open.poll();
                for (int v = 0; v < g.n; v++) {
                    if (g.joins(u, v) && !met[v]) {
                        met[v] = true;
                        open.add(v);
                    }
                }
            }
            return met[t];
        }

        Set<Set<Integer>> partsOf(G g) {
            Set<Set<Integer>> parts = new HashSet<>();
            for (int s = 0; s < g.n; s++) {
                if (leads(g, s, s)) {
                    Set<Integer> part = new TreeSet<>();
                    for (int t = 0; t < g.n; t++) if (leads(g, s, t) && leads(g, t, s)) part.add(t);
                    parts.add(part);
                }
            }
            return parts;
        }

        int parts(int i) {
            return partsOf(g(i)).size();
        }

        int period(int i, int s) {
            G g = g(i);
            range(s, 0, g.n - 1);
            if (!leads(g, s, s)) throw new NoSuchElementException();
            int period = 0;
            boolean[] at = new boolean[g.n];
            at[s] = true;
            for (int k = 1; k <= 4 * g.n; k++) {
                boolean[] next = new boolean[g.n];
                for (int u = 0; u < g.n; u++) for (int v = 0; v < g.n; v++) if (at[u] && g.joins(u, v)) next[v] = true;
                at = next;
                if (at[s]) period = BigInteger.valueOf(period).gcd(BigInteger.valueOf(k)).intValue();
            }
            return period;
        }

        boolean isIrreducible(int i) {
            G g = g(i);
            return partsOf(g).contains(g.liveStates());
        }

        boolean isRight(int i) {
            G g = g(i);
            boolean[] live = g.live();
            for (int s : g.liveStates()) {
                for (int l = 0; l < g.k; l++) if (g.read(Set.of(s), l, live).size() > 1) return false;
            }
            return true;
        }

        int futures(int i) {
            G g = g(i);
            boolean[] live = g.live();
            List<Set<Integer>> sets = new ArrayList<>();
            if (!g.liveStates().isEmpty()) sets.add(g.liveStates());
            for (int at = 0; at < sets.size(); at++) {
                for (int l = 0; l < g.k; l++) {
                    Set<Integer> t = g.read(sets.get(at), l, live);
                    if (!t.isEmpty() && !sets.contains(t)) sets.add(t);
                }
                if (sets.size() > 60) throw new UnsupportedOperationException();
            }
            int n = sets.size();
            // pairs with unlike futures, found from the end; n stands for the empty set
            boolean[][] unlike = new boolean[n + 1][n + 1];
            for (int p = 0; p < n; p++) unlike[p][n] = unlike[n][p] = true;
            int[][] to = new int[n + 1][g.k];
            for (int l = 0; l < g.k; l++) {
                to[n][l] = n;
                for (int p = 0; p < n; p++) {
                    int q = sets.indexOf(g.read(sets.get(p), l, live));
                    to[p][l] = q < 0 ? n : q;
                }
            }
            for (boolean more = true; more;) {
                more = false;
                for (int p = 0; p <= n; p++) for (int q = 0; q <= n; q++) for (int l = 0; l < g.k; l++) {
                    if (!unlike[p][q] && unlike[to[p][l]][to[q][l]]) more = unlike[p][q] = true;
                }
            }
            int count = 0;
            for (int p = 0; p < n; p++) {
                boolean isNew = true;
                for (int q = 0; q < p; q++) isNew &= unlike[p][q];
                if (isNew) count++;
            }
            return count;
        }

        boolean areSame(int i, int j) {
            G g = g(i);
            G h = g(j);
            if (g.k != h.k) throw new UnsupportedOperationException();
            boolean[] gl = g.live();
            boolean[] hl = h.live();
            List<List<Set<Integer>>> order = new ArrayList<>();
            Set<List<Set<Integer>>> met = new HashSet<>();
            List<Set<Integer>> first = List.of(g.liveStates(), h.liveStates());
            if (first.get(0).isEmpty() != first.get(1).isEmpty()) return false;
            order.add(first);
            met.add(first);
            for (int at = 0; at < order.size(); at++) {
                List<Set<Integer>> pair = order.get(at);
                if (pair.get(0).isEmpty()) continue;
                for (int l = 0; l < g.k; l++) {
                    List<Set<Integer>> next = List.of(g.read(pair.get(0), l, gl), h.read(pair.get(1), l, hl));
                    if (next.get(0).isEmpty() != next.get(1).isEmpty()) return false;
                    if (met.add(next)) {
                        order.add(next);
                        if (order.size() > 400) throw new UnsupportedOperationException();
                    }
                }
            }
            return true;
        }

        static BigInteger[][] product(BigInteger[][] a, BigInteger[][] b) {
            BigInteger[][] c = new BigInteger[a.length][b[0].length];
            for (int i = 0; i < a.length; i++) for (int j = 0; j < b[0].length; j++) {
                c[i][j] = BigInteger.ZERO;
                for (int k = 0; k < b.length; k++) c[i][j] = c[i][j].add(a[i][k].multiply(b[k][j]));
            }
            return c;
        }

        static BigInteger traceOf(BigInteger[][] a) {
            BigInteger sum = BigInteger.ZERO;
            for (int i = 0; i < a.length; i++) sum = sum.add(a[i][i]);
            return sum;
        }

        /** By Newton's sums: k times the k-th one is less the sum of traces times earlier ones. */
        static long coefficient(BigInteger[][] a, int power) {
            int n = a.length;
            if (power > n) return 0;
            BigInteger[] e = new BigInteger[n + 1];
            BigInteger[] p = new BigInteger[n + 1];
            e[0] = BigInteger.ONE;
            BigInteger[][] at = a;
            for (int k = 1; k <= n; k++) {
                p[k] = traceOf(at);
                at = product(at, a);
                BigInteger sum = BigInteger.ZERO;
                for (int i = 1; i <= k; i++) sum = sum.subtract(p[i].multiply(e[k - i]));
                BigInteger[] both = sum.divideAndRemainder(BigInteger.valueOf(k));
                if (both[1].signum() != 0) throw new AssertionError();
                e[k] = both[0];
            }
            return e[power].longValueExact();
        }

        long series(int i, int power) {
            G g = g(i);
            range(power, 0, 24);
            List<Integer> live = new ArrayList<>(g.liveStates());
            int n = live.size();
            if (n > 12) throw new UnsupportedOperationException();
            BigInteger[][] a = new BigInteger[n][n];
            for (int r = 0; r < n; r++) for (int c = 0; c < n; c++) {
                int count = 0;
                for (int l = 0; l < g.k; l++) if (g.e[l][live.get(r)][live.get(c)]) count++;
                a[r][c] = BigInteger.valueOf(count);
            }
            return coefficient(a, power);
        }

        long growth(int i, int steps, boolean isLow) {
            G g = g(i);
            range(steps, 0, 6);
            Set<Integer> live = g.liveStates();
            if (live.isEmpty()) throw new UnsupportedOperationException();
            long[] v = new long[g.n];
            Arrays.fill(v, 1);
            for (int step = 0; step < steps; step++) {
                long[] w = v.clone();
                for (int s : live) w[s] += behind(g, live, v, s);
                v = w;
            }
            double least = 1e18;
            long low = Long.MAX_VALUE;
            long high = 0;
            for (int s : live) {
                long sum = behind(g, live, v, s) * 1000;
                low = Math.min(low, sum / v[s]);
                high = Math.max(high, sum / v[s] + (sum % v[s] != 0 ? 1 : 0));
                least = Math.min(least, (double) sum / v[s]);
            }
            if (Math.abs(Math.floor(least) - low) > 1) throw new AssertionError();
            return isLow ? low : high;
        }

        static long behind(G g, Set<Integer> live, long[] v, int s) {
            long sum = 0;
            for (int l = 0; l < g.k; l++) for (int t : live) if (g.e[l][s][t]) sum += v[t];
            return sum;
        }

        int code(int k) {
            range(k, 2, 3);
            if (codes.size() == 6) throw new IllegalStateException();
            codes.add(new C(k));
            return codes.size() - 1;
        }

        char set(int i, char a, char b, char gives) {
            C c = c(i);
            if (!only("" + a + b + gives, c.k)) throw new IllegalArgumentException();
            char was = c.g[a - 'a'][b - 'a'];
            c.g[a - 'a'][b - 'a'] = gives;
            return was;
        }

        int slide(int i) {
            C c = c(i);
            if (buffer.length() < 2 || !only(buffer, c.k)) throw new UnsupportedOperationException();
            StringBuilder text = new StringBuilder();
            for (int p = 1; p < buffer.length(); p++) text.append(c.g[buffer.charAt(p - 1) - 'a'][buffer.charAt(p) - 'a']);
            buffer = text.toString();
            return buffer.length();
        }

        char signAt(int i) {
            if (i < 0 || i >= buffer.length()) throw new NoSuchElementException();
            return buffer.charAt(i);
        }

        int image(int i, int j) {
            C c = c(i);
            G g = g(j);
            if (c.k != g.k) throw new UnsupportedOperationException();
            G whole = new G(g.n * g.k, g.k);
            for (int s = 0; s < g.n; s++) for (int x = 0; x < g.k; x++) for (int t = 0; t < g.n; t++) for (int y = 0; y < g.k; y++) {
                if (g.e[y][s][t]) whole.e[c.g[x][y] - 'a'][g.k * s + x][g.k * t + y] = true;
            }
            List<Integer> live = new ArrayList<>(whole.liveStates());
            if (live.size() > 24 || live.isEmpty()) throw new UnsupportedOperationException();
            G made = new G(live.size(), g.k);
            for (int l = 0; l < g.k; l++) for (int p = 0; p < live.size(); p++) for (int q = 0; q < live.size(); q++) {
                made.e[l][p][q] = whole.e[l][live.get(p)][live.get(q)];
            }
            return add(made);
        }

        boolean isOneToOne(int i, int j, int n) {
            C c = c(i);
            G g = g(j);
            range(n, 1, 5);
            if (c.k != g.k) throw new UnsupportedOperationException();
            Set<String> images = new HashSet<>();
            Set<String> words = repeated(g, n);
            for (String w : words) {
                StringBuilder text = new StringBuilder();
                for (int p = 0; p < n; p++) text.append(c.g[w.charAt(p) - 'a'][w.charAt((p + 1) % n) - 'a']);
                images.add(text.toString());
            }
            return images.size() == words.size();
        }

        int matrix(int r, int c) {
            range(r, 1, 5);
            range(c, 1, 5);
            if (matrices.size() == 8) throw new IllegalStateException();
            matrices.add(new int[r][c]);
            return matrices.size() - 1;
        }

        static void cell(int[][] a, int r, int c) {
            if (r < 0 || c < 0 || r >= a.length || c >= a[0].length) throw new IndexOutOfBoundsException();
        }

        int put(int i, int r, int c, int v) {
            int[][] a = m(i);
            cell(a, r, c);
            range(v, 0, 9);
            int was = a[r][c];
            a[r][c] = v;
            return was;
        }

        int get(int i, int r, int c) {
            cell(m(i), r, c);
            return m(i)[r][c];
        }

        static void square(int[][] a) {
            if (a.length != a[0].length) throw new UnsupportedOperationException();
        }

        int split(int i, int r, int c, int keeps) {
            int[][] a = m(i);
            cell(a, r, c);
            range(keeps, 0, a[r][c]);
            square(a);
            int n = a.length;
            if (n == 5) throw new IllegalStateException();
            int[][] b = new int[n + 1][];
            for (int p = 0; p < n; p++) b[p] = Arrays.copyOf(a[p], n + 1);
            b[n] = new int[n + 1];
            b[n][c] = a[r][c] - keeps;
            b[r][c] = keeps;
            for (int p = 0; p <= n; p++) b[p][n] = b[p][r];
            matrices.set(i, b);
            return n + 1;
        }

        static BigInteger[][] big(int[][] a) {
            BigInteger[][] b = new BigInteger[a.length][a[0].length];
            for (int r = 0; r < a.length; r++) for (int c = 0; c < a[0].length; c++) b[r][c] = BigInteger.valueOf(a[r][c]);
            return b;
        }

        static BigInteger[][] power(BigInteger[][] a, int times) {
            BigInteger[][] b = a;
            for (int k = 1; k < times; k++) b = product(b, a);
            return b;
        }

        boolean areLike(int i, int j, int k, int l, int lag) {
            int[][] a = m(i);
            int[][] b = m(j);
            int[][] r = m(k);
            int[][] s = m(l);
            range(lag, 1, 4);
            square(a);
            square(b);
            if (r.length != a.length || r[0].length != b.length || s.length != b.length || s[0].length != a.length) {
                throw new UnsupportedOperationException();
            }
            BigInteger[][] x = big(a);
            BigInteger[][] y = big(b);
            BigInteger[][] u = big(r);
            BigInteger[][] v = big(s);
            return Arrays.deepEquals(product(x, u), product(u, y)) && Arrays.deepEquals(product(v, x), product(y, v))
                    && Arrays.deepEquals(product(u, v), power(x, lag)) && Arrays.deepEquals(product(v, u), power(y, lag));
        }

        /** By adding multiples of rows and columns, as the document tells it. */
        long group(int i, int index) {
            int[][] m = m(i);
            square(m);
            int n = m.length;
            if (index < 0 || index >= n) throw new NoSuchElementException();
            BigInteger[][] a = big(m);
            for (int r = 0; r < n; r++) for (int c = 0; c < n; c++) {
                a[r][c] = (r == c ? BigInteger.ONE : BigInteger.ZERO).subtract(a[r][c]);
            }
            for (int k = 0; k < n; k++) bringOne(a, k);
            return a[index][index].abs().longValueExact();
        }

        private static void bringOne(BigInteger[][] a, int k) {
            int n = a.length;
            while (true) {
                int pr = -1;
                int pc = -1;
                for (int r = k; r < n; r++) for (int c = k; c < n; c++) {
                    if (a[r][c].signum() != 0 && (pr < 0 || a[r][c].abs().compareTo(a[pr][pc].abs()) < 0)) {
                        pr = r;
                        pc = c;
                    }
                }
                if (pr < 0) return;
                BigInteger[] row = a[k];
                a[k] = a[pr];
                a[pr] = row;
                for (int r = 0; r < n; r++) {
                    BigInteger v = a[r][k];
                    a[r][k] = a[r][pc];
                    a[r][pc] = v;
                }
                boolean clean = true;
                for (int r = k + 1; r < n; r++) {
                    BigInteger q = a[r][k].divide(a[k][k]);
                    for (int c = k; c < n; c++) a[r][c] = a[r][c].subtract(q.multiply(a[k][c]));
                    clean &= a[r][k].signum() == 0;
                }
                for (int c = k + 1; c < n; c++) {
                    BigInteger q = a[k][c].divide(a[k][k]);
                    for (int r = k; r < n; r++) a[r][c] = a[r][c].subtract(q.multiply(a[r][k]));
                    clean &= a[k][c].signum() == 0;
                }
                if (!clean) continue;
                int bad = -1;
                for (int r = k + 1; r < n; r++) for (int c = k + 1; c < n; c++) {
                    if (a[r][c].mod(a[k][k].abs()).signum() != 0) bad = r;
                }
                if (bad < 0) return;
                for (int c = k; c < n; c++) a[k][c] = a[k][c].add(a[bad][c]);
            }
        }

        long zeta(int i, int power) {
            int[][] a = m(i);
            square(a);
            if (power < 0 || power > a.length) throw new NoSuchElementException();
            return coefficient(big(a), power);
        }

        long trace(int i, int times) {
            int[][] a = m(i);
            range(times, 1, 8);
            square(a);
            return traceOf(power(big(a), times)).longValueExact();
        }

        static int order(String a, String b) {
            int at = 0;
            while (at < a.length() && at < b.length() && a.charAt(at) == b.charAt(at)) at++;
            if (at == a.length() || at == b.length()) return 0;
            boolean even = a.substring(0, at).replace("L", "").length() % 2 == 0;
            return even == (a.charAt(at) == 'R') ? 1 : -1;
        }

        int compare() {
            if (!buffer.matches("[LR]{1,12},[LR]{1,12}")) throw new UnsupportedOperationException();
            String[] both = buffer.split(",");
            return order(both[0], both[1]);
        }

        boolean isGreatest() {
            if (!buffer.matches("[LR]{1,12}")) throw new UnsupportedOperationException();
            for (int at = 0; at < buffer.length(); at++) if (order(buffer.substring(at), buffer) > 0) return false;
            return true;
        }

        static final List<Integer> periods = new ArrayList<>();

        boolean forces(int p, int q) {
            range(p, 1, 9999);
            range(q, 1, 9999);
            if (periods.isEmpty()) {
                for (int two = 1; two < 10000; two *= 2) for (int odd = 3; odd * two < 10000; odd += 2) periods.add(odd * two);
                for (int two = 8192; two > 0; two /= 2) periods.add(two);
            }
            return periods.indexOf(p) <= periods.indexOf(q);
        }

        /** By trying all words: 0, if each word of up to 10 cells has a row that becomes it. */
        static int bruteOrphan(int rule) {
            for (int n = 1; n <= 10; n++) {
                Set<Integer> images = new HashSet<>();
                for (int row = 0; row < 1 << n + 2; row++) {
                    int word = 0;
                    for (int p = 0; p < n; p++) word |= (rule >> (row >> p & 7) & 1) << p;
                    images.add(word);
                }
                if (images.size() < 1 << n) return n;
            }
            return 0;
        }

        boolean isOnto(int rule) {
            range(rule, 0, 255);
            return bruteOrphan(rule) == 0;
        }

        int orphan(int rule) {
            range(rule, 0, 255);
            int length = bruteOrphan(rule);
            if (length == 0) throw new NoSuchElementException();
            return length;
        }

        static String ringText(int ring, int n) {
            StringBuilder text = new StringBuilder();
            for (int p = 0; p < n; p++) text.append(ring >> p & 1);
            return text.toString();
        }

        static String stepRing(int rule, String ring) {
            StringBuilder text = new StringBuilder();
            String wide = ring.charAt(ring.length() - 1) + ring + ring.charAt(0);
            for (int p = 1; p <= ring.length(); p++) {
                text.append(rule >> Integer.parseInt(wide.substring(p - 1, p + 2), 2) & 1);
            }
            return text.toString();
        }

        boolean isOneToOneOn(int rule, int n) {
            range(rule, 0, 255);
            range(n, 1, 10);
            Set<String> images = new HashSet<>();
            for (int ring = 0; ring < 1 << n; ring++) images.add(stepRing(rule, ringText(ring, n)));
            return images.size() == 1 << n;
        }

        int ringPeriod(int rule, int n, int ring) {
            range(rule, 0, 255);
            range(n, 1, 10);
            range(ring, 0, (1 << n) - 1);
            List<String> rings = new ArrayList<>();
            String now = ringText(ring, n);
            while (!rings.contains(now)) {
                rings.add(now);
                now = stepRing(rule, now);
            }
            return rings.size() - rings.indexOf(now);
        }

        int becomes(char l) {
            if (l < 'a' || l > 'c') throw new IllegalArgumentException();
            if (!buffer.matches("[abc]{1,4}")) throw new UnsupportedOperationException();
            int was = rows[l - 'a'].length();
            rows[l - 'a'] = buffer;
            buffer = "";
            return was;
        }

        int complexity(int n) {
            range(n, 1, 8);
            String row = "a";
            for (int t = 0; t < 12 && row.length() < 200; t++) {
                StringBuilder next = new StringBuilder();
                for (char l : row.toCharArray()) next.append(rows[l - 'a']);
                row = next.toString();
            }
            row = row.substring(0, Math.min(200, row.length()));
            Set<String> words = new HashSet<>();
            for (int p = 0; p + n <= row.length(); p++) words.add(row.substring(p, p + n));
            return words.size();
        }

        static int edges(G g) {
            int count = 0;
            for (boolean[][] l : g.e) for (boolean[] r : l) for (boolean there : r) if (there) count++;
            return count;
        }

        long checksum() {
            long sum = 0;
            for (G g : shifts) sum = 31 * sum + g.liveStates().size() + 7L * edges(g);
            return sum;
        }

        float liveShare() {
            int live = 0;
            int all = 0;
            for (G g : shifts) {
                live += g.liveStates().size();
                all += g.n;
            }
            if (all == 0) throw new ArithmeticException();
            return (float) live / (float) all;
        }

        double meanEdges() {
            if (shifts.isEmpty()) throw new ArithmeticException();
            int sum = 0;
            for (G g : shifts) sum += edges(g);
            return (double) sum / (double) shifts.size();
        }
    }
}
