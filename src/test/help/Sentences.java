import java.util.ArrayList;
import java.util.List;
import java.util.NoSuchElementException;
import java.util.function.IntFunction;

/**
 * What the tests of boundaries share. Each sentence of the document that names a boundary has a test
 * of its own there: the answer at the boundary, what comes one step beyond it, and, behind a refused
 * call, that the object answers what it answered before. No object is asked more than 512 times.
 */
abstract class Sentences {
    static final Class<?> RANGE = IllegalArgumentException.class;
    static final Class<?> STATE = IllegalStateException.class;
    static final Class<?> INDEX = IndexOutOfBoundsException.class;
    static final Class<?> UNFIT = UnsupportedOperationException.class;
    static final Class<?> NONE = NoSuchElementException.class;
    static final Class<?> ZERO = ArithmeticException.class;
    private static final int MOST_CALLS = 512;
    private static final List<String> HELPERS =
            List.of("tell", "is", "isJust", "isMatrix", "isGroup", "isZeta", "compares", "refused", "beyond", "asIfAlone",
                    "sentence", "given", "renew", "countCalls");

    private static String says;
    private static int sentences;
    private static int refusals;
    private static int wrong;

    private static Shiftgate gate;
    private static int calls;
    private static Runnable house;
    private static List<Object> before;

    interface Call {
        Object run();
    }

    // ---- How a sentence is tested ----

    static void sentence(String text, Runnable test) {
        says = text;
        sentences++;
        try {
            given(() -> { });
            test.run();
        } catch (RuntimeException e) {
            tell("threw " + e);
        }
        countCalls();
    }

    /** Tells how many sentences there were, and ends with 1, if one does not hold. */
    static void end() {
        System.out.println(sentences + " sentences, " + refusals + " refused calls that change nothing, "
                + wrong + " wrong");
        if (wrong != 0) {
            System.exit(1);
        }
    }

    /** From here on the sentence is about an object that is made so. */
    static void given(Runnable made) {
        house = made;
        before = null;
        renew();
    }

    private static void renew() {
        countCalls();
        gate = new Shiftgate();
        calls = 0;
        house.run();
    }

    private static void countCalls() {
        if (calls > MOST_CALLS) {
            tell("an object is asked " + calls + " times");
        }
    }

    static Shiftgate x() {
        calls++;
        return gate;
    }

    private static void tell(String what) {
        wrong++;
        int line = 0;
        for (StackTraceElement at : new Throwable().getStackTrace()) {
            boolean isHelp = HELPERS.contains(at.getMethodName());
            if (line == 0 && !isHelp) {
                line = at.getLineNumber();
            }
        }
        System.out.println("\"" + says + "\", line " + line + ": " + what);
    }

    private static Object outcome(Call call) {
        try {
            return call.run();
        } catch (RuntimeException e) {
            return e.getClass();
        }
    }

    static void is(Object due, Call call) {
        Object got = outcome(call);
        if (!due.equals(got)) {
            tell("answered " + got + ", due is " + due);
        }
    }

    /**
     * A new object, made as given, refuses the call, and answers all that is asked then as another
     * one, made in the same way, answers it without the call.
     */
    static void refused(Class<?> due, Call call) {
        Shiftgate keptGate = gate;
        int keptCalls = calls;
        calls = 0;
        if (before == null) {
            renew();
            before = answers();
        }
        renew();
        is(due, call);
        List<Object> after = answers();
        if (!after.equals(before)) {
            tell("a refused call changed " + before + " to " + after);
        }
        countCalls();
        refusals++;
        gate = keptGate;
        calls = keptCalls;
    }

    /** A call that only asks answers on an object that has been asked all others what it answers on a new one. */
    static void asIfAlone(Call... asking) {
        Object[] due = new Object[asking.length];
        for (int i = 0; i < asking.length; i++) {
            renew();
            due[i] = outcome(asking[i]);
        }
        renew();
        for (int i = 0; i < asking.length; i++) {
            is(due[i], asking[i]);
        }
        for (int i = asking.length - 1; i >= 0; i--) {
            is(due[i], asking[i]);
        }
    }

    /** Numbers are refused next to both ends of their range, and far away. */
    static void beyond(int least, int most, Class<?> due, IntFunction<Object> call) {
        for (int bad : new int[] {least - 1, most + 1, Integer.MIN_VALUE, Integer.MAX_VALUE}) {
            refused(due, () -> call.apply(bad));
        }
    }

    /** Signs that are no letters of a shift or code with so many: those next to them, and others. */
    static char[] otherSigns(int letters) {
        String far = new String(new char[] {0, (char) ('a' + 256), 65535});
        return ((letters == 2 ? "`cdABCLR," : "`deABCLR,") + far).toCharArray();
    }

    // ---- All that an object answers ----

    private static List<Object> answers() {
        List<Object> all = new ArrayList<>();
        all.add(outcome(() -> x().checksum()));
        all.add(outcome(() -> x().liveShare()));
        all.add(outcome(() -> x().meanEdges()));
        all.add(outcome(() -> x().isSound()));
        signs(all);
        for (int i = 0; i < 9 && !INDEX.equals(stateOf(i)); i++) {
            aboutShift(all, i);
        }
        for (int i = 0; i < 9; i++) {
            aboutMatrix(all, i);
        }
        for (int i = 0; i < 7; i++) {
            aboutCode(all, i);
        }
        aboutLetters(all);
        return all;
    }

    private static Object stateOf(int shift) {
        return outcome(() -> x().states(shift));
    }

    private static void signs(List<Object> all) {
        Object sign = 'a';
        for (int i = 0; !NONE.equals(sign) && i <= 41; i++) {
            int at = i;
            sign = outcome(() -> x().signAt(at));
            all.add(sign);
        }
    }

    private static void aboutShift(List<Object> all, int i) {
        all.add(outcome(() -> x().states(i)));
        all.add(outcome(() -> x().words(i, 1)));
        all.add(outcome(() -> x().words(i, 3)));
        all.add(outcome(() -> x().points(i, 2)));
        all.add(outcome(() -> x().points(i, 3)));
        all.add(outcome(() -> x().parts(i)));
        all.add(outcome(() -> x().isIrreducible(i)));
        all.add(outcome(() -> x().isRight(i)));
        all.add(outcome(() -> x().futures(i)));
        all.add(outcome(() -> x().series(i, 1)));
        all.add(outcome(() -> x().series(i, 2)));
        all.add(outcome(() -> x().growth(i, 1, true)));
        all.add(outcome(() -> x().growth(i, 1, false)));
        int told = 0;
        while (told < 25 && calls < 400) {
            int state = told;
            Object period = outcome(() -> x().period(i, state));
            all.add(period);
            if (RANGE.equals(period)) {
                break;
            }
            told++;
        }
        if (told <= 3 && i < 2) {
            aboutEdges(all, i, told);
        }
    }

    /** Asks by putting the edges, which are taken out again where they were not. */
    private static void aboutEdges(List<Object> all, int i, int states) {
        for (int place = 0; place < states * states * 3; place++) {
            int from = place / 3 / states;
            int to = place / 3 % states;
            char letter = (char) ('a' + place % 3);
            Object was = outcome(() -> x().edge(i, from, letter, to, true));
            all.add(was);
            if (Boolean.FALSE.equals(was)) {
                x().edge(i, from, letter, to, false);
            }
        }
    }

    private static void aboutMatrix(List<Object> all, int i) {
        for (int row = 0; row < 6; row++) {
            Object number = 0;
            for (int column = 0; column < 6 && !INDEX.equals(number); column++) {
                int r = row;
                int c = column;
                number = outcome(() -> x().get(i, r, c));
                all.add(number);
            }
            if (INDEX.equals(all.get(all.size() - 1)) && INDEX.equals(outcome(() -> x().get(i, 0, 0)))) {
                return;
            }
        }
    }

    private static void aboutCode(List<Object> all, int i) {
        Object given = outcome(() -> x().set(i, 'a', 'a', 'a'));
        all.add(given);
        for (int place = 1; place < 9 && !INDEX.equals(given); place++) {
            char first = (char) ('a' + place / 3);
            char second = (char) ('a' + place % 3);
            all.add(outcome(() -> x().set(i, first, second, 'a')));
        }
    }

    private static void aboutLetters(List<Object> all) {
        for (int length = 1; length <= 8; length++) {
            int n = length;
            all.add(outcome(() -> x().complexity(n)));
        }
        for (char letter : "abc".toCharArray()) {
            x().clear();
            x().type('a');
            all.add(outcome(() -> x().becomes(letter)));
        }
    }

    // ---- What objects are made of ----

    static void type(String text) {
        x().clear();
        for (char sign : text.toCharArray()) {
            x().type(sign);
        }
    }

    static String buffer(int length) {
        StringBuilder text = new StringBuilder();
        for (int i = 0; i < length; i++) {
            text.append(x().signAt(i));
        }
        return text.toString();
    }

    static String times(String text, int times) {
        StringBuilder all = new StringBuilder();
        for (int i = 0; i < times; i++) {
            all.append(text);
        }
        return all.toString();
    }

    static int forbid(String text, int letters) {
        type(text);
        return x().forbid(letters);
    }

    /** Adds a shift by edges like 0a1, from the state 0 with a to the state 1. */
    static int graph(int states, int letters, String edges) {
        int number = x().shift(states, letters);
        draw(number, edges);
        return number;
    }

    private static void draw(int shift, String edges) {
        if (!edges.isEmpty()) {
            for (String edge : edges.split(" ")) {
                String[] ends = edge.split("[abc]");
                char letter = edge.charAt(ends[0].length());
                x().edge(shift, Integer.parseInt(ends[0]), letter, Integer.parseInt(ends[1]), true);
            }
        }
    }

    /** Adds a shift: with a the states go round, with b they go to those that are told as bits. */
    static int round(int letters, int... targets) {
        int number = x().shift(targets.length, letters);
        for (int from = 0; from < targets.length; from++) {
            x().edge(number, from, 'a', (from + 1) % targets.length, true);
            drawBits(number, from, 'b', targets[from], targets.length);
        }
        return number;
    }

    static void drawBits(int shift, int from, char letter, int bits, int states) {
        for (int to = 0; to < states; to++) {
            if ((bits >> to & 1) == 1) {
                x().edge(shift, from, letter, to, true);
            }
        }
    }

    /** A row of states, from each to the next one with a. */
    static String chain(int first, int last) {
        StringBuilder text = new StringBuilder();
        for (int i = first; i < last; i++) {
            text.append(i > first ? " " : "").append(i).append('a').append(i + 1);
        }
        return text.toString();
    }

    /** Adds a code with what it gives for aa, ab and so on. */
    static int code(String gives) {
        int letters = gives.length() == 4 ? 2 : 3;
        int number = x().code(letters);
        for (int i = 0; i < gives.length(); i++) {
            x().set(number, (char) ('a' + i / letters), (char) ('a' + i % letters), gives.charAt(i));
        }
        return number;
    }

    static int matrix(int rows, int columns, int... numbers) {
        int number = x().matrix(rows, columns);
        for (int i = 0; i < numbers.length; i++) {
            x().put(number, i / columns, i % columns, numbers[i]);
        }
        return number;
    }

    static void isMatrix(int matrix, int rows, int... due) {
        int columns = due.length / rows;
        for (int i = 0; i < due.length; i++) {
            int row = i / columns;
            int column = i % columns;
            is(due[i], () -> x().get(matrix, row, column));
        }
        is(INDEX, () -> x().get(matrix, rows, 0));
        is(INDEX, () -> x().get(matrix, 0, columns));
    }

    /** A shift has these edges, and no other ones. */
    static void isJust(int shift, int states, int letters, String... edges) {
        List<String> all = List.of(edges);
        int count = 0;
        for (int i = 0; i < states * states * letters; i++) {
            int from = i / letters / states;
            int to = i / letters % states;
            char letter = (char) ('a' + i % letters);
            boolean due = all.contains("" + from + letter + to);
            count += due ? 1 : 0;
            is(due, () -> x().edge(shift, from, letter, to, due));
        }
        if (count != edges.length) {
            tell("an edge of the test has no place");
        }
    }

    static void becomes(String a, String b, String c) {
        type(a);
        x().becomes('a');
        type(b);
        x().becomes('b');
        type(c);
        x().becomes('c');
    }

    /** Three shifts, two codes, three matrices, a substitution and a buffer, so that a change is seen. */
    static void furnish() {
        graph(3, 2, "0a0 0b1 1a0 2a0");
        graph(2, 3, "0a1 1c0 1b1");
        forbid("bb", 2);
        code("abba");
        code("abcbcacab");
        matrix(2, 2, 1, 2, 3, 4);
        matrix(2, 3, 1, 2, 3, 4, 5, 6);
        matrix(1, 1, 9);
        becomes("ab", "ca", "bba");
        type("abLR,");
    }

    static void furnishWith(String text) {
        furnish();
        type(text);
    }

    /** Furnished, and with five more shifts, that there are 8. */
    static void furnishFull(String text) {
        furnish();
        for (int i = 0; i < 5; i++) {
            x().shift(1, 2);
        }
        type(text);
    }
}
