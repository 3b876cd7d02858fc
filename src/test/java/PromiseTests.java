import java.util.NoSuchElementException;

/** For each promise of the document: ordinary inputs, edges and wrong inputs, with answers found by hand. */
public final class PromiseTests {
    private static final Class<?> RANGE = IllegalArgumentException.class;
    private static final Class<?> STATE = IllegalStateException.class;
    private static final Class<?> INDEX = IndexOutOfBoundsException.class;
    private static final Class<?> UNFIT = UnsupportedOperationException.class;
    private static final Class<?> NONE = NoSuchElementException.class;
    private static final Class<?> ZERO = ArithmeticException.class;

    private static int promise;
    private static int asked;
    private static int wrong;
    private static Shiftgate x;

    interface Call {
        Object run();
    }

    public static void main(String[] args) {
        start(1); newObject();
        start(2); typing();
        start(3); clearing();
        start(4); shifts();
        start(5); edges();
        start(6); forbidding();
        start(7); gapping();
        start(8); states();
        start(9); words();
        start(10); isWord();
        start(11); points();
        start(12); parts();
        start(13); periods();
        start(14); irreducible();
        start(15); right();
        start(16); futures();
        start(17); same();
        start(18); series();
        start(19); growth();
        start(20); codes();
        start(21); setting();
        start(22); sliding();
        start(23); signs();
        start(24); images();
        start(25); oneToOne();
        start(26); matrices();
        start(27); putting();
        start(28); getting();
        start(29); splitting();
        start(30); alike();
        start(31); groups();
        start(32); zeta();
        start(33); traces();
        start(34); comparing();
        start(35); greatest();
        start(36); forcing();
        start(37); onto();
        start(38); orphans();
        start(39); injective();
        start(40); rings();
        start(41); becoming();
        start(42); complexity();
        start(43); checksum();
        start(44); share();
        start(45); mean();
        start(46); sound();
        System.out.println(asked + " answers of 46 promises, " + wrong + " wrong");
        if (wrong != 0) {
            System.exit(1);
        }
    }

    private static void start(int number) {
        promise = number;
        x = new Shiftgate();
    }

    private static void is(Object want, Call call) {
        asked++;
        Object got;
        try {
            got = call.run();
        } catch (RuntimeException e) {
            got = e.getClass();
        }
        if (!got.equals(want)) {
            wrong++;
            StackTraceElement[] at = new Throwable().getStackTrace();
            System.out.println("promise " + promise + ", line " + at[1].getLineNumber() + ": " + got + ", due is " + want);
        }
    }

    private static void type(String text) {
        x.clear();
        for (char sign : text.toCharArray()) {
            x.type(sign);
        }
    }

    private static int forbid(String text, int letters) {
        type(text);
        return x.forbid(letters);
    }

    /** Adds a shift by edges like 0a1, from the state 0 with a to the state 1. */
    private static int graph(int states, int letters, String... edges) {
        int number = x.shift(states, letters);
        for (String edge : edges) {
            int at = 0;
            while (Character.isDigit(edge.charAt(at))) {
                at++;
            }
            x.edge(number, Integer.parseInt(edge.substring(0, at)), edge.charAt(at),
                    Integer.parseInt(edge.substring(at + 1)), true);
        }
        return number;
    }

    private static int matrix(int rows, int columns, int... numbers) {
        int number = x.matrix(rows, columns);
        for (int i = 0; i < numbers.length; i++) {
            x.put(number, i / columns, i % columns, numbers[i]);
        }
        return number;
    }

    private static String buffer(int length) {
        StringBuilder text = new StringBuilder();
        for (int i = 0; i < length; i++) {
            text.append(x.signAt(i));
        }
        return text.toString();
    }

    private static void newObject() {
        is(0, () -> x.clear());
        is(INDEX, () -> x.states(0));
        is(RANGE, () -> x.shift(0, 0));
        is(INDEX, () -> x.slide(0));
        is(INDEX, () -> x.get(0, 0, 0));
        is(0L, () -> x.checksum());
        is(0, () -> x.shift(1, 2));
        is(0, () -> x.code(2));
        is(0, () -> x.matrix(1, 1));
    }

    private static void typing() {
        int count = 0;
        for (char sign : "abcLR,".toCharArray()) {
            int due = ++count;
            is(due, () -> x.type(sign));
        }
        for (char sign : new char[] {'d', 'A', 'l', 'r', '.', ' ', 0, (char) 233, '`', (char) 0xffff}) {
            is(RANGE, () -> x.type(sign));
        }
        for (int i = 7; i <= 40; i++) {
            int due = i;
            is(due, () -> x.type('a'));
        }
        is(STATE, () -> x.type('a'));
        is(RANGE, () -> x.type('d'));
        is(40, () -> x.clear());
        is(1, () -> x.type(','));
    }

    private static void clearing() {
        is(0, () -> x.clear());
        type("aL,");
        is(3, () -> x.clear());
        is(0, () -> x.clear());
        is(NONE, () -> x.signAt(0));
    }

    private static void shifts() {
        for (int[] bad : new int[][] {{0, 2}, {13, 2}, {-1, 2}, {1, 1}, {1, 4}, {Integer.MAX_VALUE, 2}}) {
            is(RANGE, () -> x.shift(bad[0], bad[1]));
        }
        is(0, () -> x.shift(12, 3));
        is(1, () -> x.shift(1, 2));
        is(0, () -> x.states(0));
        for (int i = 2; i < 8; i++) {
            int due = i;
            is(due, () -> x.shift(2, 2));
        }
        is(STATE, () -> x.shift(2, 2));
        is(RANGE, () -> x.shift(0, 2));
        is(INDEX, () -> x.states(8));
    }

    private static void edges() {
        graph(2, 2);
        is(false, () -> x.edge(0, 0, 'a', 1, true));
        is(true, () -> x.edge(0, 0, 'a', 1, true));
        is(true, () -> x.edge(0, 0, 'a', 1, false));
        is(false, () -> x.edge(0, 0, 'a', 1, false));
        is(false, () -> x.edge(0, 0, 'b', 1, true));
        is(false, () -> x.edge(0, 1, 'b', 0, true));
        is(2, () -> x.states(0));
        is(INDEX, () -> x.edge(1, 0, 'a', 0, true));
        is(INDEX, () -> x.edge(-1, 9, 'z', 0, true));
        is(RANGE, () -> x.edge(0, 0, 'c', 0, true));
        is(RANGE, () -> x.edge(0, 0, 'L', 0, true));
        is(RANGE, () -> x.edge(0, 2, 'a', 0, true));
        is(RANGE, () -> x.edge(0, 0, 'a', 2, true));
        is(RANGE, () -> x.edge(0, -1, 'a', 0, true));
        is(RANGE, () -> x.edge(0, 0, 'a', -1, true));
        is(2.0, () -> x.meanEdges());
        int made = x.gaps(2);
        is(true, () -> x.edge(made, 0, 'a', 1, true));
        is(false, () -> x.edge(made, 0, 'b', 1, true));
        is(RANGE, () -> x.edge(made, 0, 'b', 2, true));
    }

    private static void forbidding() {
        is(RANGE, () -> x.forbid(1));
        is(RANGE, () -> x.forbid(4));
        for (String bad : new String[] {",", "a,", ",a", "a,,b", "abab", "aa,bbbb", "L", "aR", "c", "a,bc"}) {
            type(bad);
            is(UNFIT, () -> x.forbid(2));
            is(bad, () -> buffer(bad.length()));
        }
        x.clear();
        is(0, () -> x.forbid(2));
        is(8, () -> x.words(0, 3));
        is(8.0, () -> x.meanEdges());
        type("bb");
        is(1, () -> x.forbid(2));
        is(0, () -> x.clear());
        is(false, () -> x.edge(1, 1, 'b', 3, false));
        is(true, () -> x.edge(1, 1, 'a', 2, true));
        is(5, () -> x.words(1, 3));
        is(2, () -> forbid("c,bb,aba", 3));
        // a b would stand between two a, so that aba stood there
        is(1, () -> x.words(2, 3));
        is(3, () -> forbid("aba", 2));
        is(7, () -> x.words(3, 3));
        is(4, () -> forbid("a,b,c", 3));
        is(0, () -> x.states(4));
        is(false, () -> x.edge(4, 8, 'c', 8, false));
        is(5, () -> forbid("", 3));
        is(true, () -> x.edge(5, 5, 'a', 6, true));
        is(false, () -> x.edge(5, 5, 'a', 7, false));
        is(RANGE, () -> x.edge(5, 9, 'a', 0, true));
        x.shift(1, 2);
        x.shift(1, 2);
        type("abab");
        is(UNFIT, () -> x.forbid(2));
        type("ab");
        is(STATE, () -> x.forbid(2));
        is(RANGE, () -> x.forbid(1));
        is("ab", () -> buffer(2));
    }

    private static void gapping() {
        for (int bad : new int[] {0, 256, -1, Integer.MIN_VALUE}) {
            is(RANGE, () -> x.gaps(bad));
        }
        is(0, () -> x.gaps(1));
        is(1, () -> x.states(0));
        is(1, () -> x.words(0, 5));
        is(1, () -> x.gaps(6));
        is(true, () -> x.edge(1, 0, 'a', 1, true));
        is(true, () -> x.edge(1, 1, 'a', 2, true));
        is(true, () -> x.edge(1, 1, 'b', 0, true));
        is(true, () -> x.edge(1, 2, 'b', 0, true));
        is(false, () -> x.edge(1, 0, 'b', 0, false));
        is(RANGE, () -> x.edge(1, 3, 'a', 0, true));
        is(4.0, () -> { x.shift(1, 2); x.gaps(255); return 3 * (x.meanEdges() * 4 - 20) + 4; });
        type("baab");
        is(true, () -> x.isWord(1));
        type("bb");
        is(false, () -> x.isWord(1));
        type("baaab");
        is(false, () -> x.isWord(1));
        for (int i = 4; i < 8; i++) {
            x.gaps(128);
        }
        is(8, () -> x.states(7));
        is(STATE, () -> x.gaps(1));
        is(RANGE, () -> x.gaps(0));
    }

    private static void states() {
        is(INDEX, () -> x.states(0));
        graph(4, 2, "0a1", "1a1", "1b2", "3a3");
        is(2, () -> x.states(0));
        graph(4, 2, "0a1", "1a2", "2a3");
        is(0, () -> x.states(1));
        graph(5, 3, "0a0", "0b1", "1c2", "2a3", "3b3", "3b4");
        is(4, () -> x.states(2));
        is(3, () -> x.states(forbid("bb", 2)));
        is(INDEX, () -> x.states(-1));
        is(INDEX, () -> x.states(4));
    }

    private static void words() {
        is(INDEX, () -> x.words(0, 99));
        graph(3, 2, "0a0", "0b1", "1b0", "1a2");
        is(1, () -> x.words(0, 0));
        is(2, () -> x.words(0, 1));
        is(4, () -> x.words(0, 2));
        is(7, () -> x.words(0, 3));
        is(12, () -> x.words(0, 4));
        is(RANGE, () -> x.words(0, 11));
        is(RANGE, () -> x.words(0, -1));
        graph(2, 2, "0a1");
        is(0, () -> x.words(1, 0));
        is(0, () -> x.words(1, 3));
        is(59049, () -> x.words(forbid("", 3), 10));
        is(144, () -> x.words(forbid("bb", 2), 10));
        is(10, () -> x.words(graph(2, 2, "0a0", "0b1", "1b1"), 9));
    }

    private static void isWord() {
        type("L");
        is(INDEX, () -> x.isWord(0));
        graph(2, 2, "0a0", "0b1", "1b0");
        is(UNFIT, () -> x.isWord(0));
        type("ac");
        is(UNFIT, () -> x.isWord(0));
        type("a,b");
        is(UNFIT, () -> x.isWord(0));
        type("");
        is(true, () -> x.isWord(0));
        type("abba");
        is(true, () -> x.isWord(0));
        type("aba");
        is(false, () -> x.isWord(0));
        type("bab");
        is(true, () -> x.isWord(0));
        is("bab", () -> buffer(3));
        graph(2, 3, "0a1");
        is(false, () -> x.isWord(1));
        type("");
        is(false, () -> x.isWord(1));
        type("c");
        is(false, () -> x.isWord(1));
        graph(3, 3, "0a0", "0c1", "1a1", "1b2");
        is(true, () -> x.isWord(2));
        type("ab");
        is(false, () -> x.isWord(2));
    }

    private static void points() {
        is(INDEX, () -> x.points(0, 0));
        graph(2, 2, "0a0", "0b1", "1b0");
        is(RANGE, () -> x.points(0, 0));
        is(RANGE, () -> x.points(0, 8));
        is(2, () -> x.points(0, 1));
        is(2, () -> x.points(0, 2));
        is(5, () -> x.points(0, 3));
        is(6, () -> x.points(0, 4));
        forbid("bb", 2);
        is(29, () -> x.points(1, 7));
        graph(2, 2, "0a0", "0b1", "1a1");
        is(1, () -> x.points(2, 3));
        graph(2, 2, "0a1");
        is(0, () -> x.points(3, 1));
        is(2187, () -> x.points(forbid("", 3), 7));
        graph(3, 2, "0a1", "1a2", "2a0");
        is(1, () -> x.points(5, 1));
        is(1, () -> x.points(5, 2));
    }

    private static void parts() {
        is(INDEX, () -> x.parts(0));
        graph(6, 2, "0a1", "1a0", "1b2", "3b3", "3a4", "4a5", "5b4", "2a3");
        is(3, () -> x.parts(0));
        graph(3, 2, "0a1", "1a2", "0b2");
        is(0, () -> x.parts(1));
        is(1, () -> x.parts(forbid("", 3)));
        is(2, () -> x.parts(graph(2, 2, "0a0", "0b1", "1b1")));
        is(INDEX, () -> x.parts(-1));
    }

    private static void periods() {
        is(INDEX, () -> x.period(0, -1));
        graph(8, 2, "0a1", "1a2", "2a3", "3a0", "1b4", "4b0", "5a6", "6a5", "6b7", "7a5", "3b5");
        is(1, () -> x.period(0, 0));
        is(1, () -> x.period(0, 5));
        x.edge(0, 6, 'b', 7, false);
        is(2, () -> x.period(0, 6));
        is(NONE, () -> x.period(0, 7));
        is(RANGE, () -> x.period(0, 8));
        is(RANGE, () -> x.period(0, -1));
        x.edge(0, 4, 'b', 0, false);
        is(4, () -> x.period(0, 2));
        is(NONE, () -> x.period(0, 4));
        forbid("bb", 2);
        is(1, () -> x.period(1, 2));
        is(NONE, () -> x.period(1, 3));
        is(RANGE, () -> x.period(1, 4));
        is(3, () -> x.period(x.gaps(4), 1));
        graph(7, 2, "0a1", "1a2", "2a3", "3a4", "4a5", "5a0", "2b6", "6b0", "0b0");
        is(1, () -> x.period(3, 4));
        x.edge(3, 0, 'b', 0, false);
        is(2, () -> x.period(3, 4));
        graph(3, 2, "0a2", "2a0", "1b1");
        is(2, () -> x.period(4, 0));
        is(2, () -> x.period(4, 2));
        is(1, () -> x.period(4, 1));
        graph(2, 2, "0a0", "0b1");
        is(1, () -> x.period(5, 0));
        is(NONE, () -> x.period(5, 1));
    }

    private static void irreducible() {
        is(INDEX, () -> x.isIrreducible(0));
        graph(3, 2, "0a1", "1a0", "1b2");
        is(true, () -> x.isIrreducible(0));
        x.edge(0, 2, 'a', 2, true);
        is(false, () -> x.isIrreducible(0));
        x.edge(0, 2, 'b', 0, true);
        is(true, () -> x.isIrreducible(0));
        graph(3, 2, "0a1");
        is(false, () -> x.isIrreducible(1));
        graph(4, 2, "1a1", "3a3");
        is(false, () -> x.isIrreducible(2));
        graph(3, 2, "0a0", "0a1", "1a2", "2b2");
        is(false, () -> x.isIrreducible(3));
        graph(1, 2, "0a0");
        is(true, () -> x.isIrreducible(4));
        graph(3, 2, "2a2");
        is(true, () -> x.isIrreducible(5));
    }

    private static void right() {
        is(INDEX, () -> x.isRight(0));
        graph(3, 2, "0a0", "0a1", "0b0");
        is(true, () -> x.isRight(0));
        x.edge(0, 1, 'a', 0, true);
        is(false, () -> x.isRight(0));
        graph(2, 2);
        is(true, () -> x.isRight(1));
        graph(3, 2, "0a0", "1a0", "2a0", "1b1", "1b2", "2b2");
        is(false, () -> x.isRight(2));
        graph(3, 2, "0b0", "1a0", "1a2", "2a2");
        is(true, () -> x.isRight(3));
    }

    private static void futures() {
        is(INDEX, () -> x.futures(0));
        is(2, () -> x.futures(forbid("bb", 2)));
        graph(2, 2, "0a0", "0b1", "1b0");
        is(3, () -> x.futures(1));
        graph(2, 2, "0a1");
        is(0, () -> x.futures(2));
        is(1, () -> x.futures(forbid("", 3)));
        is(8, () -> x.futures(x.gaps(255)));
        is(5, () -> x.futures(x.gaps(5)));
        sixtySets();
    }

    /** On a cycle of a, what b, which stays, is read from makes rotated rows of states and their cuts. */
    private static void sixtySets() {
        start(16);
        x.shift(12, 3);
        for (int i = 0; i < 12; i++) {
            x.edge(0, i, 'a', (i + 1) % 12, true);
        }
        x.edge(0, 0, 'b', 0, true);
        is(13, () -> x.futures(0));
        x.edge(0, 1, 'b', 1, true);
        is(25, () -> x.futures(0));
        x.edge(0, 2, 'b', 2, true);
        x.edge(0, 3, 'b', 3, true);
        is(49, () -> x.futures(0));
        x.edge(0, 4, 'b', 4, true);
        is(UNFIT, () -> x.futures(0));
        // eleven states: 56 sets, then all with a twelfth one, two with b, and c to 0 and to the twelfth
        x.shift(12, 3);
        for (int i = 0; i < 11; i++) {
            x.edge(1, i, 'a', (i + 1) % 11, true);
            x.edge(1, i, 'b', i, i < 5);
        }
        x.edge(1, 11, 'c', 11, true);
        x.edge(1, 11, 'b', 11, true);
        x.edge(1, 0, 'c', 0, true);
        x.edge(1, 3, 'c', 11, true);
        is(57, () -> x.futures(1)); // of just 60 sets, three of them like others
        x.edge(1, 5, 'c', 6, true);
        is(UNFIT, () -> x.futures(1));
    }

    private static void same() {
        is(INDEX, () -> x.areSame(0, 0));
        forbid("bb", 2);
        graph(2, 2, "0a0", "0b1", "1a0");
        graph(2, 3, "0a0", "0b1", "1a0");
        is(INDEX, () -> x.areSame(0, 3));
        is(INDEX, () -> x.areSame(-1, 0));
        is(true, () -> x.areSame(0, 1));
        is(true, () -> x.areSame(1, 0));
        is(true, () -> x.areSame(1, 1));
        is(UNFIT, () -> x.areSame(0, 2));
        x.edge(1, 1, 'b', 1, true);
        is(false, () -> x.areSame(0, 1));
        graph(1, 2);
        graph(2, 2, "0a1");
        is(true, () -> x.areSame(3, 4));
        is(false, () -> x.areSame(3, 0));
        is(false, () -> x.areSame(0, 3));
        manyPairs();
    }

    /**
     * Graphs with a cycle of a and with b as told by bits of states; by all words sets are met, as
     * many pairs as told, and, where there is a c, so many ahead of an unlike one.
     */
    private static void manyPairs() {
        start(17);
        bits(2, 16, 32, 2, 1, 20, 5);
        bits(2, 8, 8, 16, 16, 2, 8);
        is(true, () -> x.areSame(0, 1)); // just 400
        bits(2, 8, 1, 4, 4, 8);
        bits(2, 8, 2, 2, 1, 4);
        is(UNFIT, () -> x.areSame(2, 3)); // just 401
        bits(3, 1, 16, 8, 32, 2, 1);
        bits(3, 4, 1, 2, 2);
        allByC(4, 6, 5);
        allByC(5, 4, 4);
        is(false, () -> x.areSame(4, 5)); // 400 ahead of an unlike one, which would be the 401st
        bits(3, 4, 4, 33, 1, 16, 8);
        allByC(6, 6, 5);
        bits(3, 1, 2, 8, 10);
        allByC(7, 4, 4);
        is(UNFIT, () -> x.areSame(6, 7)); // 401 ahead of it
    }

    private static void bits(int letters, int... targets) {
        int number = x.shift(targets.length, letters);
        for (int i = 0; i < targets.length; i++) {
            x.edge(number, i, 'a', (i + 1) % targets.length, true);
            for (int t = 0; t < targets.length; t++) {
                x.edge(number, i, 'b', t, (targets[i] >> t & 1) == 1);
            }
        }
    }

    /** From all states but one c goes to all states. */
    private static void allByC(int shift, int states, int but) {
        for (int i = 0; i < states * states; i++) {
            x.edge(shift, i / states, 'c', i % states, i / states != but);
        }
    }

    private static void series() {
        is(INDEX, () -> x.series(0, -1));
        forbid("bb", 2);
        long[] due = {1, -1, -1, 0, 0};
        for (int i = 0; i < due.length; i++) {
            int power = i;
            is(due[i], () -> x.series(0, power));
        }
        is(0L, () -> x.series(0, 24));
        is(RANGE, () -> x.series(0, 25));
        is(RANGE, () -> x.series(0, -1));
        graph(3, 3, "0a0", "0b0", "0c0", "0a1", "1b0", "1c2");
        long[] other = {1, -3, -1, 0};
        for (int i = 0; i < other.length; i++) {
            int power = i;
            is(other[i], () -> x.series(1, power));
        }
        graph(2, 2, "0a1");
        is(1L, () -> x.series(2, 0));
        is(0L, () -> x.series(2, 1));
        x.shift(12, 3);
        for (int i = 0; i < 12; i++) {
            x.edge(3, i, 'a', (i + 1) % 12, true);
            x.edge(3, i, 'b', (i + 1) % 12, true);
        }
        is(-4096L, () -> x.series(3, 12));
        is(0L, () -> x.series(3, 11));
        x.code(3);
        is(4, () -> x.image(0, 3));
        is(RANGE, () -> x.series(4, 25));
        is(UNFIT, () -> x.series(4, 0));
    }

    private static void growth() {
        is(INDEX, () -> x.growth(0, 9, true));
        forbid("bb", 2);
        is(1000L, () -> x.growth(0, 0, true));
        is(2000L, () -> x.growth(0, 0, false));
        is(1500L, () -> x.growth(0, 1, true));
        is(1667L, () -> x.growth(0, 1, false));
        is(1618L, () -> x.growth(0, 6, true));
        is(1619L, () -> x.growth(0, 6, false));
        is(RANGE, () -> x.growth(0, 7, true));
        is(RANGE, () -> x.growth(0, -1, true));
        graph(2, 2, "0a1");
        is(RANGE, () -> x.growth(1, 7, true));
        is(UNFIT, () -> x.growth(1, 0, true));
        graph(2, 2, "0a0", "0b0", "0a1");
        is(2000L, () -> x.growth(2, 3, true));
        is(2000L, () -> x.growth(2, 3, false));
        is(3000L, () -> x.growth(forbid("", 3), 6, false));
    }

    private static void codes() {
        is(RANGE, () -> x.code(1));
        is(RANGE, () -> x.code(4));
        for (int i = 0; i < 6; i++) {
            int due = i;
            is(due, () -> x.code(2 + due % 2));
        }
        is(STATE, () -> x.code(2));
        is(RANGE, () -> x.code(1));
        is('a', () -> x.set(5, 'c', 'c', 'b'));
        is(RANGE, () -> x.set(4, 'c', 'a', 'b'));
    }

    private static void setting() {
        is(INDEX, () -> x.set(0, 'z', 'a', 'a'));
        x.code(2);
        x.code(3);
        is('a', () -> x.set(0, 'a', 'b', 'b'));
        is('b', () -> x.set(0, 'a', 'b', 'a'));
        is('a', () -> x.set(0, 'b', 'a', 'a'));
        is('a', () -> x.set(1, 'c', 'b', 'c'));
        is('c', () -> x.set(1, 'c', 'b', 'b'));
        is(RANGE, () -> x.set(0, 'c', 'a', 'a'));
        is(RANGE, () -> x.set(0, 'a', 'c', 'a'));
        is(RANGE, () -> x.set(0, 'a', 'a', 'c'));
        is(RANGE, () -> x.set(1, 'a', 'L', 'c'));
        is(INDEX, () -> x.set(2, 'a', 'a', 'a'));
        is(INDEX, () -> x.set(-1, 'a', 'a', 'a'));
    }

    private static void sliding() {
        is(INDEX, () -> x.slide(0));
        x.code(2);
        x.set(0, 'a', 'b', 'b');
        x.set(0, 'b', 'a', 'b');
        type("abbab");
        is(4, () -> x.slide(0));
        is("babb", () -> buffer(4));
        is(3, () -> x.slide(0));
        is("bba", () -> buffer(3));
        type("ab");
        is(1, () -> x.slide(0));
        is("b", () -> buffer(1));
        is(UNFIT, () -> x.slide(0));
        is(1, () -> x.clear());
        type("a");
        is(UNFIT, () -> x.slide(0));
        type("");
        is(UNFIT, () -> x.slide(0));
        type("abc");
        is(UNFIT, () -> x.slide(0));
        is("abc", () -> buffer(3));
        type("ab,");
        is(UNFIT, () -> x.slide(0));
        x.code(3);
        x.set(1, 'b', 'c', 'c');
        type("abc");
        is(2, () -> x.slide(1));
        is("ac", () -> buffer(2));
        is(INDEX, () -> x.slide(2));
    }

    private static void signs() {
        is(NONE, () -> x.signAt(0));
        type("aL,");
        is('a', () -> x.signAt(0));
        is('L', () -> x.signAt(1));
        is(',', () -> x.signAt(2));
        is(NONE, () -> x.signAt(3));
        is(NONE, () -> x.signAt(-1));
        is(NONE, () -> x.signAt(40));
        x.clear();
        is(NONE, () -> x.signAt(0));
    }

    private static void images() {
        is(INDEX, () -> x.image(0, 0));
        x.code(2);
        is(INDEX, () -> x.image(0, 0));
        graph(2, 2, "0a0", "0b1", "1a0");
        is(INDEX, () -> x.image(1, 0));
        is(INDEX, () -> x.image(0, -1));
        x.set(0, 'a', 'b', 'b');
        is(1, () -> x.image(0, 0));
        // the pairs 0a, 1b and, behind it, 0a again: 0a is 0, 1b is 1
        is(2, () -> x.states(1));
        is(true, () -> x.edge(1, 0, 'a', 0, true));
        is(true, () -> x.edge(1, 0, 'b', 1, true));
        is(true, () -> x.edge(1, 1, 'a', 0, true));
        is(false, () -> x.edge(1, 0, 'a', 1, false));
        is(RANGE, () -> x.edge(1, 2, 'a', 0, true));
        is(true, () -> x.areSame(0, 1));
        graph(3, 2, "0a1", "1a2");
        is(UNFIT, () -> x.image(0, 2));
        x.code(3);
        is(UNFIT, () -> x.image(1, 0));
        x.shift(12, 3);
        for (int i = 0; i < 12; i++) {
            x.edge(3, i, 'a', (i + 1) % 12, true);
            x.edge(3, i, 'c', (i + 5) % 12, true);
        }
        is(4, () -> x.image(1, 3));
        is(24, () -> x.states(4));
        is(UNFIT, () -> x.image(0, 4));
        x.edge(3, 0, 'b', 0, true);
        is(UNFIT, () -> x.image(1, 3));
        graph(1, 2, "0a0", "0b0");
        x.gaps(3);
        x.gaps(3);
        is(STATE, () -> x.image(0, 5));
        is(UNFIT, () -> x.image(1, 5));
        is(UNFIT, () -> x.image(0, 2));
        smallImages();
    }

    private static void smallImages() {
        start(24);
        x.code(2);
        x.set(0, 'a', 'a', 'b');
        graph(2, 2, "0a0", "0b1");
        is(1, () -> x.image(0, 0));
        is(1, () -> x.states(1));
        is(true, () -> x.edge(1, 0, 'b', 0, true));
        is(RANGE, () -> x.edge(1, 1, 'b', 0, true));
        // the pairs by the number of letters times the state, plus the letter: 0b, 1a, 1b
        x.set(0, 'b', 'a', 'b');
        graph(2, 2, "0a1", "1b1", "1b0");
        is(3, () -> x.image(0, 2));
        is(3, () -> x.states(3));
        is(true, () -> x.edge(3, 0, 'b', 1, true));
        is(true, () -> x.edge(3, 1, 'a', 0, true));
        is(true, () -> x.edge(3, 1, 'a', 2, true));
        is(true, () -> x.edge(3, 2, 'a', 2, true));
        is(true, () -> x.edge(3, 2, 'a', 0, true));
        is(2.75, () -> x.meanEdges());
    }

    private static void oneToOne() {
        is(INDEX, () -> x.isOneToOne(0, 0, 9));
        x.code(2);
        is(INDEX, () -> x.isOneToOne(0, 0, 9));
        forbid("", 2);
        forbid("", 3);
        is(INDEX, () -> x.isOneToOne(1, 0, 9));
        is(RANGE, () -> x.isOneToOne(0, 0, 0));
        is(RANGE, () -> x.isOneToOne(0, 1, 6));
        is(UNFIT, () -> x.isOneToOne(0, 1, 5));
        is(false, () -> x.isOneToOne(0, 0, 1));
        x.set(0, 'b', 'a', 'b');
        x.set(0, 'b', 'b', 'b');
        for (int i = 1; i <= 5; i++) {
            int length = i;
            is(true, () -> x.isOneToOne(0, 0, length));
        }
        x.set(0, 'a', 'b', 'b');
        x.set(0, 'b', 'a', 'a');
        for (int i = 1; i <= 5; i++) {
            int length = i;
            is(true, () -> x.isOneToOne(0, 0, length));
        }
        x.set(0, 'b', 'a', 'b');
        x.set(0, 'b', 'b', 'a');
        is(false, () -> x.isOneToOne(0, 0, 1));
        is(false, () -> x.isOneToOne(0, 0, 3));
        forbid("b", 2);
        is(true, () -> x.isOneToOne(0, 2, 4));
        graph(1, 2);
        is(true, () -> x.isOneToOne(0, 3, 4));
    }

    private static void matrices() {
        for (int[] bad : new int[][] {{0, 1}, {6, 1}, {1, 0}, {1, 6}, {-1, 1}}) {
            is(RANGE, () -> x.matrix(bad[0], bad[1]));
        }
        is(0, () -> x.matrix(5, 1));
        is(1, () -> x.matrix(1, 5));
        is(0, () -> x.get(0, 4, 0));
        is(INDEX, () -> x.get(0, 0, 1));
        for (int i = 2; i < 8; i++) {
            int due = i;
            is(due, () -> x.matrix(2, 2));
        }
        is(STATE, () -> x.matrix(2, 2));
        is(RANGE, () -> x.matrix(2, 6));
    }

    private static void putting() {
        is(INDEX, () -> x.put(0, 0, 0, 0));
        x.matrix(2, 3);
        is(0, () -> x.put(0, 1, 2, 9));
        is(9, () -> x.put(0, 1, 2, 4));
        is(4, () -> x.get(0, 1, 2));
        is(0, () -> x.get(0, 0, 2));
        for (int[] bad : new int[][] {{1, 0, 0}, {0, 2, 0}, {0, 0, 3}, {0, -1, 0}, {0, 0, -1}, {-1, 0, 0}}) {
            is(INDEX, () -> x.put(bad[0], bad[1], bad[2], 99));
        }
        is(RANGE, () -> x.put(0, 1, 2, 10));
        is(RANGE, () -> x.put(0, 1, 2, -1));
        is(4, () -> x.get(0, 1, 2));
    }

    private static void getting() {
        is(INDEX, () -> x.get(0, 0, 0));
        matrix(2, 3, 1, 2, 3, 4, 5, 6);
        is(1, () -> x.get(0, 0, 0));
        is(3, () -> x.get(0, 0, 2));
        is(4, () -> x.get(0, 1, 0));
        for (int[] bad : new int[][] {{1, 0, 0}, {0, 2, 0}, {0, 0, 3}, {0, -1, 0}, {0, 0, -1}, {-1, 0, 0}}) {
            is(INDEX, () -> x.get(bad[0], bad[1], bad[2]));
        }
    }

    private static void splitting() {
        is(INDEX, () -> x.split(0, 0, 0, 0));
        matrix(2, 2, 3, 2, 2, 3);
        matrix(2, 3, 1, 1, 1, 1, 1, 1);
        is(INDEX, () -> x.split(0, 2, 0, 9));
        is(INDEX, () -> x.split(1, 0, 3, 9));
        is(RANGE, () -> x.split(0, 0, 0, 4));
        is(RANGE, () -> x.split(0, 0, 0, -1));
        is(RANGE, () -> x.split(1, 0, 0, 2));
        is(UNFIT, () -> x.split(1, 0, 0, 1));
        is(3, () -> x.split(0, 1, 0, 2));
        int[] due = {3, 2, 2, 2, 3, 3, 0, 0, 0};
        for (int i = 0; i < 9; i++) {
            int at = i;
            is(due[i], () -> x.get(0, at / 3, at % 3));
        }
        is(4, () -> x.split(0, 1, 1, 0));
        // the new column is like that of the row, also in the two rows that come of it
        int[] later = {3, 2, 2, 2, 2, 0, 3, 0, 0, 0, 0, 0, 0, 3, 0, 3};
        for (int i = 0; i < 16; i++) {
            int at = i;
            is(later[i], () -> x.get(0, at / 4, at % 4));
        }
        is(5, () -> x.split(0, 3, 3, 3));
        is(STATE, () -> x.split(0, 0, 0, 0));
        is(RANGE, () -> x.split(0, 0, 0, 4));
        is(INDEX, () -> x.get(0, 5, 0));
    }

    private static void alike() {
        is(INDEX, () -> x.areLike(0, 0, 0, 0, 9));
        matrix(1, 1, 2);
        matrix(2, 2, 1, 1, 1, 1);
        matrix(1, 2, 1, 1);
        matrix(2, 1, 1, 1);
        is(true, () -> x.areLike(0, 1, 2, 3, 1));
        is(true, () -> x.areLike(1, 0, 3, 2, 1));
        is(false, () -> x.areLike(0, 1, 2, 3, 2));
        is(UNFIT, () -> x.areLike(0, 1, 3, 2, 1));
        is(UNFIT, () -> x.areLike(0, 0, 2, 3, 1));
        is(UNFIT, () -> x.areLike(0, 1, 2, 2, 1));
        is(UNFIT, () -> x.areLike(0, 1, 3, 3, 1));
        is(UNFIT, () -> x.areLike(2, 1, 2, 3, 1));
        is(UNFIT, () -> x.areLike(0, 2, 2, 3, 1));
        is(RANGE, () -> x.areLike(2, 1, 2, 3, 0));
        is(RANGE, () -> x.areLike(0, 1, 2, 3, 5));
        for (int[] bad : new int[][] {{-1, 0, 0, 0}, {0, 4, 0, 0}, {0, 0, 4, 0}, {0, 0, 0, 4}}) {
            is(INDEX, () -> x.areLike(bad[0], bad[1], bad[2], bad[3], 9));
        }
        is(true, () -> x.areLike(1, 1, 1, 1, 2));
        matrix(2, 2, 2, 2, 2, 2);
        is(true, () -> x.areLike(1, 1, 1, 4, 3));
        is(false, () -> x.areLike(1, 1, 1, 4, 2));
        matrix(2, 2, 4, 4, 4, 4);
        is(true, () -> x.areLike(1, 1, 1, 5, 4));
        oneUnlike();
    }

    /** Just one of the four does not hold, by turns; the lag is 2. */
    private static void oneUnlike() {
        start(30);
        int nilpotent = matrix(2, 2, 0, 1, 0, 0);
        int zero = matrix(2, 2);
        int last = matrix(2, 2, 0, 0, 0, 1);
        int first = matrix(2, 2, 1, 0, 0, 0);
        is(true, () -> x.areLike(nilpotent, zero, zero, zero, 2));
        is(false, () -> x.areLike(nilpotent, zero, last, zero, 2));
        is(false, () -> x.areLike(nilpotent, zero, zero, first, 2));
        is(false, () -> x.areLike(first, zero, zero, zero, 2));
        is(false, () -> x.areLike(zero, first, zero, zero, 2));
    }

    private static void groups() {
        is(INDEX, () -> x.group(0, -1));
        matrix(2, 2, 3, 2, 2, 3);
        is(2L, () -> x.group(0, 0));
        is(0L, () -> x.group(0, 1));
        is(NONE, () -> x.group(0, 2));
        is(NONE, () -> x.group(0, -1));
        matrix(2, 3);
        is(UNFIT, () -> x.group(1, -1));
        matrix(3, 3, 1, 0, 0, 0, 1, 0, 0, 0, 1);
        is(0L, () -> x.group(2, 0));
        is(0L, () -> x.group(2, 2));
        matrix(2, 2, 3, 0, 0, 4);
        is(1L, () -> x.group(3, 0));
        is(6L, () -> x.group(3, 1));
        matrix(3, 3, 7, 0, 0, 0, 5, 0, 0, 0, 9);
        is(2L, () -> x.group(4, 0));
        is(4L, () -> x.group(4, 1));
        is(24L, () -> x.group(4, 2));
        matrix(1, 1, 9);
        is(8L, () -> x.group(5, 0));
        matrix(5, 5, 9, 0, 0, 0, 0, 0, 9, 0, 0, 0, 0, 0, 9, 0, 0, 0, 0, 0, 9, 0, 0, 0, 0, 0, 9);
        is(8L, () -> x.group(6, 4));
        matrix(1, 1, 0);
        is(1L, () -> x.group(7, 0));
    }

    private static void zeta() {
        is(INDEX, () -> x.zeta(0, 0));
        matrix(2, 3);
        is(UNFIT, () -> x.zeta(0, 9));
        matrix(3, 3, 1, 2, 3, 4, 5, 6, 7, 8, 9);
        long[] due = {1, -15, -18, 0};
        for (int i = 0; i < due.length; i++) {
            int power = i;
            is(due[i], () -> x.zeta(1, power));
        }
        is(NONE, () -> x.zeta(1, 4));
        is(NONE, () -> x.zeta(1, -1));
        matrix(2, 2, 0, 3, 2, 0);
        is(-6L, () -> x.zeta(2, 2));
        matrix(1, 1, 9);
        is(-9L, () -> x.zeta(3, 1));
        is(INDEX, () -> x.zeta(4, 0));
    }

    private static void traces() {
        is(INDEX, () -> x.trace(0, 0));
        matrix(1, 2);
        is(RANGE, () -> x.trace(0, 0));
        is(RANGE, () -> x.trace(0, 9));
        is(UNFIT, () -> x.trace(0, 8));
        matrix(2, 2, 1, 2, 3, 4);
        is(5L, () -> x.trace(1, 1));
        is(29L, () -> x.trace(1, 2));
        is(155L, () -> x.trace(1, 3));
        int nines = x.matrix(5, 5);
        for (int i = 0; i < 25; i++) {
            x.put(nines, i / 5, i % 5, 9);
        }
        is(16815125390625L, () -> x.trace(nines, 8));
    }

    private static void comparing() {
        Object[][] due = {{"RLR,RL", 0}, {"RL,RLR", 0}, {"R,L", 1}, {"L,R", -1}, {"RR,RL", -1}, {"RL,RR", 1},
            {"LR,LL", 1}, {"LRR,LRL", -1}, {"RRR,RRL", 1}, {"RLL,RLR", 1}, {"RRRR,RRRL", -1}, {"L,L", 0},
            {"LLLLLLLLLLLL,LLLLLLLLLLLR", -1}};
        for (Object[] pair : due) {
            type((String) pair[0]);
            is(pair[1], () -> x.compare());
        }
        for (String bad : new String[] {"", ",", "R,", ",R", "RL", "R,L,R", "R,,L", "Ra,L", "R,Lb", "a,b",
            "LLLLLLLLLLLLL,R", "R,LLLLLLLLLLLLL"}) {
            type(bad);
            is(UNFIT, () -> x.compare());
        }
        is('L', () -> x.signAt(13));
    }

    private static void greatest() {
        Object[][] due = {{"R", true}, {"L", true}, {"RL", true}, {"LR", false}, {"RLRR", true}, {"RLLR", true},
            {"RLL", true}, {"RR", true}, {"RRL", false}, {"RLRL", true}, {"RLRLL", false}, {"LL", true},
            {"RLLRLR", true}, {"RLRRRR", true}, {"RLRRLLR", false}, {"LLLLLLLLLLLL", true}, {"RRRRRRRRRRRL", false}};
        for (Object[] one : due) {
            type((String) one[0]);
            is(one[1], () -> x.isGreatest());
        }
        for (String bad : new String[] {"", "R,L", "RLa", ",", "LLLLLLLLLLLLL"}) {
            type(bad);
            is(UNFIT, () -> x.isGreatest());
        }
    }

    private static void forcing() {
        int[] order = {3, 5, 7, 9, 9999, 6, 10, 9998, 12, 20, 28, 24, 40, 6144, 8192, 4096, 64, 32, 16, 8, 4, 2, 1};
        for (int i = 0; i < order.length; i++) {
            start(36);
            for (int j = 0; j < order.length; j++) {
                int one = order[i];
                int other = order[j];
                is(i <= j, () -> x.forces(one, other));
            }
        }
        for (int[] bad : new int[][] {{0, 1}, {1, 0}, {10000, 1}, {1, 10000}, {-3, -3}}) {
            is(RANGE, () -> x.forces(bad[0], bad[1]));
        }
    }

    private static void onto() {
        for (int rule : new int[] {15, 30, 45, 51, 60, 90, 105, 106, 150, 154, 170, 204, 240}) {
            is(true, () -> x.isOnto(rule));
        }
        for (int rule : new int[] {0, 1, 18, 22, 54, 73, 110, 126, 184, 232, 254, 255}) {
            is(false, () -> x.isOnto(rule));
        }
        int count = 0;
        for (int rule = 0; rule < 256; rule++) {
            count += x.isOnto(rule) ? 1 : 0;
        }
        int all = count;
        is(30, () -> all);
        is(RANGE, () -> x.isOnto(-1));
        is(RANGE, () -> x.isOnto(256));
    }

    private static void orphans() {
        is(1, () -> x.orphan(0));
        is(1, () -> x.orphan(255));
        is(5, () -> x.orphan(110));
        is(4, () -> x.orphan(184));
        is(NONE, () -> x.orphan(30));
        is(NONE, () -> x.orphan(204));
        is(RANGE, () -> x.orphan(-1));
        is(RANGE, () -> x.orphan(256));
    }

    private static void injective() {
        for (int cells = 1; cells <= 10; cells++) {
            int n = cells;
            for (int rule : new int[] {15, 51, 85, 170, 204, 240}) {
                is(true, () -> x.isOneToOneOn(rule, n));
            }
            is(n % 3 != 0, () -> x.isOneToOneOn(150, n));
            is(false, () -> x.isOneToOneOn(0, n));
            is(n % 2 == 1, () -> x.isOneToOneOn(45, n));
        }
        is(false, () -> x.isOneToOneOn(90, 1));
        is(RANGE, () -> x.isOneToOneOn(0, 0));
        is(RANGE, () -> x.isOneToOneOn(0, 11));
        is(RANGE, () -> x.isOneToOneOn(-1, 5));
        is(RANGE, () -> x.isOneToOneOn(256, 5));
    }

    private static void rings() {
        is(10, () -> x.ringPeriod(170, 10, 1));
        is(5, () -> x.ringPeriod(170, 10, 33));
        is(1, () -> x.ringPeriod(170, 10, 1023));
        is(2, () -> x.ringPeriod(51, 3, 5));
        is(1, () -> x.ringPeriod(0, 3, 5));
        is(25, () -> x.ringPeriod(110, 10, 1));
        is(1, () -> x.ringPeriod(90, 8, 1));
        is(7, () -> x.ringPeriod(90, 7, 1));
        is(2, () -> x.ringPeriod(1, 1, 0));
        // the left one is the cell ahead: 2 makes just a cell with a right neighbour alone
        is(4, () -> x.ringPeriod(2, 4, 1));
        is(1, () -> x.ringPeriod(204, 1, 1));
        is(RANGE, () -> x.ringPeriod(0, 2, 4));
        is(RANGE, () -> x.ringPeriod(0, 2, -1));
        is(RANGE, () -> x.ringPeriod(0, 0, 0));
        is(RANGE, () -> x.ringPeriod(0, 11, 0));
        is(RANGE, () -> x.ringPeriod(-1, 2, 0));
        is(RANGE, () -> x.ringPeriod(256, 2, 0));
    }

    private static void becoming() {
        type("ab");
        is(RANGE, () -> x.becomes('d'));
        is(RANGE, () -> x.becomes('L'));
        is(1, () -> x.becomes('a'));
        is(0, () -> x.clear());
        is(UNFIT, () -> x.becomes('a'));
        type("abcab");
        is(UNFIT, () -> x.becomes('a'));
        type("aL");
        is(UNFIT, () -> x.becomes('a'));
        is('L', () -> x.signAt(1));
        type("a,b");
        is(UNFIT, () -> x.becomes('c'));
        is(RANGE, () -> x.becomes('z'));
        type("cccc");
        is(2, () -> x.becomes('a'));
        type("a");
        is(4, () -> x.becomes('a'));
        type("bb");
        is(1, () -> x.becomes('c'));
        is(UNFIT, () -> x.becomes('c'));
    }

    private static void complexity() {
        is(1, () -> x.complexity(1));
        is(0, () -> x.complexity(2));
        is(RANGE, () -> x.complexity(0));
        is(RANGE, () -> x.complexity(9));
        type("ab");
        x.becomes('a');
        // abbbb and so on: 13 letters behind 12 times
        is(2, () -> x.complexity(1));
        is(2, () -> x.complexity(8));
        type("a");
        x.becomes('b');
        for (int i = 1; i <= 8; i++) {
            int length = i;
            is(i + 1, () -> x.complexity(length));
        }
        type("ba");
        x.becomes('b');
        int[] due = {2, 4, 6, 10, 12, 16, 20, 22};
        for (int i = 1; i <= 8; i++) {
            int length = i;
            is(due[i - 1], () -> x.complexity(length));
        }
        type("b");
        x.becomes('a');
        type("c");
        x.becomes('b');
        is(1, () -> x.complexity(1));
        is(0, () -> x.complexity(2));
        rowsThatStop();
    }

    /** Rows that come out unlike, if they are replaced once more or less, or cut elsewhere. */
    private static void rowsThatStop() {
        substitute("b", "c", "aab");
        is(41, () -> x.complexity(8)); // 99 letters behind 12 times
        substitute("b", "cac", "abb");
        is(8, () -> x.complexity(2)); // 239 letters behind 7 times
        is(38, () -> x.complexity(8));
        substitute("b", "ca", "aab");
        is(34, () -> x.complexity(8)); // just 200 letters
        substitute("b", "acb", "cca");
        is(45, () -> x.complexity(8)); // 199 would make 44, 201 would make 46
    }

    private static void substitute(String a, String b, String c) {
        type(a);
        x.becomes('a');
        type(b);
        x.becomes('b');
        type(c);
        x.becomes('c');
    }

    private static void checksum() {
        is(0L, () -> x.checksum());
        graph(2, 2, "0a0", "0a1");
        is(15L, () -> x.checksum());
        forbid("bb", 2);
        is(31L * 15 + 3 + 7 * 5, () -> x.checksum());
        x.edge(0, 1, 'b', 1, true);
        is(31L * 23 + 3 + 7 * 5, () -> x.checksum());
        for (int i = 0; i < 6; i++) {
            x.shift(1, 2);
        }
        is((31L * 23 + 38) * 31 * 31 * 31 * 31 * 31 * 31, () -> x.checksum());
    }

    private static void share() {
        is(ZERO, () -> x.liveShare());
        graph(3, 2);
        is(0.0f, () -> x.liveShare());
        x.edge(0, 1, 'a', 1, true);
        is(1.0f / 3.0f, () -> x.liveShare());
        forbid("bb", 2);
        is(4.0f / 7.0f, () -> x.liveShare());
    }

    private static void mean() {
        is(ZERO, () -> x.meanEdges());
        graph(3, 2);
        is(0.0, () -> x.meanEdges());
        x.edge(0, 0, 'a', 1, true);
        is(1.0, () -> x.meanEdges());
        forbid("bb", 2);
        x.gaps(7);
        is(11.0 / 3.0, () -> x.meanEdges());
    }

    private static void sound() {
        is(true, () -> x.isSound());
        type("aL,");
        forbidAll();
        is(true, () -> x.isSound());
        for (int i = 0; i < 6; i++) {
            x.code(3);
            x.set(i, 'c', 'c', 'c');
        }
        for (int i = 0; i < 8; i++) {
            matrix(2, 2, 9, 9, 9, 9);
            x.split(i, 1, 1, 4);
        }
        is(true, () -> x.isSound());
    }

    private static void forbidAll() {
        for (int i = 0; i < 8; i++) {
            forbid("bb", 3);
        }
        type("bbbbLLLL,,,,aaaa");
    }
}
