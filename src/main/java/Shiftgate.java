import java.util.Arrays;
import java.util.NoSuchElementException;

/**
 * A house of shifts, codes, matrices, cellular maps and substitutions, with one buffer of signs.
 * The face tests its arguments and throws; the classes inside it only reckon.
 */
public final class Shiftgate {
    private static final int MOST_SHIFTS = 8;
    private static final int MOST_CODES = 6;
    private static final int MOST_MATRICES = 8;
    private static final int MOST_SIGNS = 40;
    private static final int MOST_STATES = 24;
    private static final int MOST_LETTERS = 3;
    private static final int MOST_ROWS = 5;

    private final Tape tape;
    private final Graph[] shifts;
    private int shiftCount;
    private final Block[] codes;
    private int codeCount;
    private final Table[] matrices;
    private int matrixCount;
    private final Reader reader;
    private final Ways ways;
    private final Algebra algebra;
    private final Cells cells;
    private final Replacer replacer;

    public Shiftgate() {
        tape = new Tape();
        shifts = new Graph[MOST_SHIFTS];
        codes = new Block[MOST_CODES];
        matrices = new Table[MOST_MATRICES];
        reader = new Reader();
        ways = new Ways();
        algebra = new Algebra();
        cells = new Cells();
        replacer = new Replacer();
    }

    // ---- Shifts ----

    public int type(char sign) throws IllegalArgumentException, IllegalStateException {
        if (!Tape.isSign(sign)) {
            throw new IllegalArgumentException("no such sign");
        }
        if (tape.size >= MOST_SIGNS) {
            throw new IllegalStateException("the buffer is full");
        }
        tape.append(sign);
        return tape.size;
    }

    public int clear() {
        int before = tape.size;
        tape.empty();
        return before;
    }

    public int shift(int states, int letters) throws IllegalArgumentException, IllegalStateException {
        demandRange(states, 1, 12);
        demandRange(letters, 2, MOST_LETTERS);
        demandRoomForShift();
        return addShift(new Graph(states, letters));
    }

    public boolean edge(int shift, int from, char letter, int to, boolean isThere)
            throws IndexOutOfBoundsException, IllegalArgumentException {
        Graph graph = shiftAt(shift);
        int sign = Tape.letterOf(letter);
        if (!graph.hasLetter(sign) || !graph.hasState(from) || !graph.hasState(to)) {
            throw new IllegalArgumentException("no such letter or state");
        }
        boolean was = hasBit(graph.targets(from, sign), to);
        graph.tell(from, sign, to, isThere);
        return was;
    }

    public int forbid(int letters)
            throws IllegalArgumentException, UnsupportedOperationException, IllegalStateException {
        demandRange(letters, 2, MOST_LETTERS);
        if (!tape.isForbidden(letters)) {
            throw new UnsupportedOperationException("the buffer is no forbidden words");
        }
        demandRoomForShift();
        int number = addShift(Maker.byForbidden(tape, letters));
        tape.empty();
        return number;
    }

    public int gaps(int gaps) throws IllegalArgumentException, IllegalStateException {
        demandRange(gaps, 1, 255);
        demandRoomForShift();
        return addShift(Maker.byGaps(gaps));
    }

    public int states(int shift) throws IndexOutOfBoundsException {
        return Integer.bitCount(shiftAt(shift).liveSet());
    }

    public int words(int shift, int length) throws IndexOutOfBoundsException, IllegalArgumentException {
        Graph graph = shiftAt(shift);
        demandRange(length, 0, Reader.LONGEST_WORD);
        return reader.countWords(graph, length);
    }

    public boolean isWord(int shift) throws IndexOutOfBoundsException, UnsupportedOperationException {
        Graph graph = shiftAt(shift);
        if (!tape.hasOnlyLetters(graph.letters)) {
            throw new UnsupportedOperationException("the buffer has other signs");
        }
        return Reader.canRead(graph, tape);
    }

    public int points(int shift, int length) throws IndexOutOfBoundsException, IllegalArgumentException {
        Graph graph = shiftAt(shift);
        demandRange(length, 1, Reader.LONGEST_ROW);
        return reader.countPoints(graph, length);
    }

    public int parts(int shift) throws IndexOutOfBoundsException {
        return ways.countParts(shiftAt(shift));
    }

    public int period(int shift, int state)
            throws IndexOutOfBoundsException, IllegalArgumentException, NoSuchElementException {
        Graph graph = shiftAt(shift);
        if (!graph.hasState(state)) {
            throw new IllegalArgumentException("no such state");
        }
        int found = ways.findPeriod(graph, state);
        if (found == 0) {
            throw new NoSuchElementException("the state is in no part");
        }
        return found;
    }

    public boolean isIrreducible(int shift) throws IndexOutOfBoundsException {
        return ways.isOnePart(shiftAt(shift));
    }

    public boolean isRight(int shift) throws IndexOutOfBoundsException {
        return shiftAt(shift).isDeterministic();
    }

    public int futures(int shift) throws IndexOutOfBoundsException, UnsupportedOperationException {
        int count = reader.countFutures(shiftAt(shift));
        if (count < 0) {
            throw new UnsupportedOperationException("more than 60 sets");
        }
        return count;
    }

    public boolean areSame(int first, int second)
            throws IndexOutOfBoundsException, UnsupportedOperationException {
        Graph one = shiftAt(first);
        Graph other = shiftAt(second);
        if (one.letters != other.letters) {
            throw new UnsupportedOperationException("other letters");
        }
        int answer = reader.match(one, other);
        if (answer < 0) {
            throw new UnsupportedOperationException("more than 400 pairs");
        }
        return answer == 1;
    }

    public long series(int shift, int power)
            throws IndexOutOfBoundsException, IllegalArgumentException, UnsupportedOperationException {
        Graph graph = shiftAt(shift);
        demandRange(power, 0, MOST_STATES);
        if (Integer.bitCount(graph.liveSet()) > Table.WIDEST) {
            throw new UnsupportedOperationException("more than 12 states");
        }
        return algebra.graphCoefficient(graph, power);
    }

    public long growth(int shift, int steps, boolean isLow)
            throws IndexOutOfBoundsException, IllegalArgumentException, UnsupportedOperationException {
        Graph graph = shiftAt(shift);
        demandRange(steps, 0, 6);
        if (graph.liveSet() == 0) {
            throw new UnsupportedOperationException("all states are stranded");
        }
        return algebra.findBound(graph, steps, isLow);
    }

    // ---- Codes ----

    public int code(int letters) throws IllegalArgumentException, IllegalStateException {
        demandRange(letters, 2, MOST_LETTERS);
        if (codeCount < 0 || codeCount >= codes.length) {
            throw new IllegalStateException("there are 6 codes");
        }
        codes[codeCount] = new Block(letters);
        codeCount++;
        return codeCount - 1;
    }

    public char set(int code, char first, char second, char gives)
            throws IndexOutOfBoundsException, IllegalArgumentException {
        Block block = codeAt(code);
        int one = Tape.letterOf(first);
        int other = Tape.letterOf(second);
        int given = Tape.letterOf(gives);
        if (!block.hasLetter(one) || !block.hasLetter(other) || !block.hasLetter(given)) {
            throw new IllegalArgumentException("no such letter");
        }
        int before = block.given(one, other);
        block.give(one, other, given);
        return Tape.signOf(before);
    }

    public int slide(int code) throws IndexOutOfBoundsException, UnsupportedOperationException {
        Block block = codeAt(code);
        if (tape.size < 2 || !tape.hasOnlyLetters(block.letters)) {
            throw new UnsupportedOperationException("the buffer can't be coded");
        }
        tape.slideBy(block);
        return tape.size;
    }

    public char signAt(int index) throws NoSuchElementException {
        if (index < 0 || index >= tape.size) {
            throw new NoSuchElementException("no such sign");
        }
        return tape.at(index);
    }

    public int image(int code, int shift)
            throws IndexOutOfBoundsException, UnsupportedOperationException, IllegalStateException {
        Block block = codeAt(code);
        Graph graph = shiftAt(shift);
        if (block.letters != graph.letters) {
            throw new UnsupportedOperationException("other letters");
        }
        int count = Maker.countPairs(graph, graph.liveSet());
        if (count < 1 || count > MOST_STATES) {
            throw new UnsupportedOperationException("too many states, or none");
        }
        demandRoomForShift();
        return addShift(Maker.byImage(block, graph));
    }

    public boolean isOneToOne(int code, int shift, int length)
            throws IndexOutOfBoundsException, IllegalArgumentException, UnsupportedOperationException {
        Block block = codeAt(code);
        Graph graph = shiftAt(shift);
        demandRange(length, 1, Reader.LONGEST_CODED);
        if (block.letters != graph.letters) {
            throw new UnsupportedOperationException("other letters");
        }
        return reader.keepsUnlike(block, graph, length);
    }

    // ---- Matrices ----

    public int matrix(int rows, int columns) throws IllegalArgumentException, IllegalStateException {
        demandRange(rows, 1, MOST_ROWS);
        demandRange(columns, 1, MOST_ROWS);
        if (matrixCount < 0 || matrixCount >= matrices.length) {
            throw new IllegalStateException("there are 8 matrices");
        }
        Table made = new Table();
        made.reshape(rows, columns);
        matrices[matrixCount] = made;
        matrixCount++;
        return matrixCount - 1;
    }

    public int put(int matrix, int row, int column, int number)
            throws IndexOutOfBoundsException, IllegalArgumentException {
        Table table = matrixAt(matrix);
        demandCell(table, row, column);
        demandRange(number, 0, 9);
        int before = (int) table.at(row, column);
        table.write(row, column, number);
        return before;
    }

    public int get(int matrix, int row, int column) throws IndexOutOfBoundsException {
        Table table = matrixAt(matrix);
        demandCell(table, row, column);
        return (int) table.at(row, column);
    }

    public int split(int matrix, int row, int column, int keeps)
            throws IndexOutOfBoundsException, IllegalArgumentException, UnsupportedOperationException,
            IllegalStateException {
        Table table = matrixAt(matrix);
        demandCell(table, row, column);
        if (keeps < 0 || keeps > table.at(row, column)) {
            throw new IllegalArgumentException("there are not so many");
        }
        demandSquare(table);
        if (table.rows >= MOST_ROWS) {
            throw new IllegalStateException("there are 5 rows");
        }
        table.splitAt(row, column, keeps);
        return table.rows;
    }

    public boolean areLike(int first, int second, int third, int fourth, int lag)
            throws IndexOutOfBoundsException, IllegalArgumentException, UnsupportedOperationException {
        Table one = matrixAt(first);
        Table other = matrixAt(second);
        Table there = matrixAt(third);
        Table back = matrixAt(fourth);
        demandRange(lag, 1, 4);
        demandSquare(one);
        demandSquare(other);
        if (!there.hasShape(one.rows, other.rows) || !back.hasShape(other.rows, one.rows)) {
            throw new UnsupportedOperationException("they do not fit together");
        }
        return algebra.isLikeBy(one, other, there, back)
                && algebra.isPowerBy(one, there, back, lag)
                && algebra.isPowerBy(other, back, there, lag);
    }

    public long group(int matrix, int index)
            throws IndexOutOfBoundsException, UnsupportedOperationException, NoSuchElementException {
        Table table = matrixAt(matrix);
        demandSquare(table);
        if (index < 0 || index >= table.rows) {
            throw new NoSuchElementException("no such number");
        }
        return algebra.diagonalNumber(table, index);
    }

    public long zeta(int matrix, int power)
            throws IndexOutOfBoundsException, UnsupportedOperationException, NoSuchElementException {
        Table table = matrixAt(matrix);
        demandSquare(table);
        if (power < 0 || power > table.rows) {
            throw new NoSuchElementException("no such power");
        }
        return algebra.coefficientOf(table, power);
    }

    public long trace(int matrix, int times)
            throws IndexOutOfBoundsException, IllegalArgumentException, UnsupportedOperationException {
        Table table = matrixAt(matrix);
        demandRange(times, 1, 8);
        demandSquare(table);
        return algebra.powerOf(table, times).diagonalSum();
    }

    // ---- Maps, rules and substitutions ----

    public int compare() throws UnsupportedOperationException {
        int comma = tape.firstComma();
        if (!Lines.isRow(tape, 0, comma) || !Lines.isRow(tape, comma + 1, tape.size)) {
            throw new UnsupportedOperationException("the buffer is not two itineraries");
        }
        return Lines.order(tape, 0, comma, comma + 1, tape.size);
    }

    public boolean isGreatest() throws UnsupportedOperationException {
        if (!Lines.isRow(tape, 0, tape.size)) {
            throw new UnsupportedOperationException("the buffer is no itinerary");
        }
        return Lines.isTop(tape);
    }

    public boolean forces(int period, int other) throws IllegalArgumentException {
        demandRange(period, 1, 9999);
        demandRange(other, 1, 9999);
        return Lines.isAheadOrLevel(period, other);
    }

    public boolean isOnto(int rule) throws IllegalArgumentException {
        demandRange(rule, 0, 255);
        return Cells.leastOrphan(rule) == 0;
    }

    public int orphan(int rule) throws IllegalArgumentException, NoSuchElementException {
        demandRange(rule, 0, 255);
        int length = Cells.leastOrphan(rule);
        if (length == 0) {
            throw new NoSuchElementException("the rule is onto");
        }
        return length;
    }

    public boolean isOneToOneOn(int rule, int cells) throws IllegalArgumentException {
        demandRange(rule, 0, 255);
        demandRange(cells, 1, Cells.MOST_CELLS);
        return this.cells.isInjective(rule, cells);
    }

    public int ringPeriod(int rule, int cells, int ring) throws IllegalArgumentException {
        demandRange(rule, 0, 255);
        demandRange(cells, 1, Cells.MOST_CELLS);
        demandRange(ring, 0, (1 << cells) - 1);
        return this.cells.findRingPeriod(rule, cells, ring);
    }

    public int becomes(char letter) throws IllegalArgumentException, UnsupportedOperationException {
        int number = Tape.letterOf(letter);
        if (number < 0) {
            throw new IllegalArgumentException("no such letter");
        }
        if (tape.size < 1 || tape.size > Replacer.LONGEST || !tape.hasOnlyLetters(MOST_LETTERS)) {
            throw new UnsupportedOperationException("the buffer is not 1 to 4 letters");
        }
        int before = replacer.lengthOf(number);
        replacer.learn(number, tape);
        tape.empty();
        return before;
    }

    public int complexity(int length) throws IllegalArgumentException {
        demandRange(length, 1, 8);
        return replacer.countUnlike(length);
    }

    // ---- Figures ----

    public long checksum() {
        long sum = 0;
        for (int i = 0; i < shiftCount; i++) {
            Graph graph = shiftOrNull(i);
            if (graph != null) {
                sum = 31 * sum + Integer.bitCount(graph.liveSet()) + 7 * graph.countEdges();
            }
        }
        return sum;
    }

    public float liveShare() throws ArithmeticException {
        int live = 0;
        int all = 0;
        for (int i = 0; i < shiftCount; i++) {
            Graph graph = shiftOrNull(i);
            if (graph != null) {
                live += Integer.bitCount(graph.liveSet());
                all += graph.states;
            }
        }
        if (all == 0) {
            throw new ArithmeticException("there are no states");
        }
        return (float) live / (float) all;
    }

    public double meanEdges() throws ArithmeticException {
        if (shiftCount == 0) {
            throw new ArithmeticException("there are no shifts");
        }
        int sum = 0;
        for (int i = 0; i < shiftCount; i++) {
            Graph graph = shiftOrNull(i);
            if (graph != null) {
                sum += graph.countEdges();
            }
        }
        return (double) sum / (double) shiftCount;
    }

    public boolean isSound() {
        boolean holds = tape.isInBounds() && shiftCount <= MOST_SHIFTS && codeCount <= MOST_CODES
                && matrixCount <= MOST_MATRICES;
        for (int i = 0; i < shifts.length; i++) {
            Graph graph = shifts[i];
            holds = holds && (graph == null ? i >= shiftCount : i < shiftCount && graph.isInBounds());
        }
        for (int i = 0; i < codes.length; i++) {
            Block block = codes[i];
            holds = holds && (block == null ? i >= codeCount : i < codeCount && block.isInBounds());
        }
        for (int i = 0; i < matrices.length; i++) {
            Table table = matrices[i];
            holds = holds && (table == null ? i >= matrixCount : i < matrixCount && table.isInBounds());
        }
        return holds;
    }

    // ---- What the face needs ----

    private Graph shiftAt(int number) {
        Graph found = shiftOrNull(number);
        if (found == null) {
            throw new IndexOutOfBoundsException("no such shift");
        }
        return found;
    }

    /** Apart from shiftAt, as calls that ask about all shifts may not throw what it throws. */
    private Graph shiftOrNull(int number) {
        return number >= 0 && number < shiftCount && number < shifts.length ? shifts[number] : null;
    }

    private Block codeAt(int number) {
        Block found = number >= 0 && number < codeCount && number < codes.length ? codes[number] : null;
        if (found == null) {
            throw new IndexOutOfBoundsException("no such code");
        }
        return found;
    }

    private Table matrixAt(int number) {
        Table found = number >= 0 && number < matrixCount && number < matrices.length ? matrices[number] : null;
        if (found == null) {
            throw new IndexOutOfBoundsException("no such matrix");
        }
        return found;
    }

    private void demandRoomForShift() {
        if (shiftCount < 0 || shiftCount >= shifts.length) {
            throw new IllegalStateException("there are 8 shifts");
        }
    }

    /** Keeps a shift, once room has been demanded for it, and tells its number. */
    private int addShift(Graph made) {
        int number = shiftCount;
        if (number >= 0 && number < shifts.length) {
            shifts[number] = made;
            shiftCount++;
        }
        return number;
    }

    private static void demandRange(int number, int least, int most) {
        if (number < least || number > most) {
            throw new IllegalArgumentException("a number is out of range");
        }
    }

    private static void demandCell(Table table, int row, int column) {
        if (row < 0 || row >= table.rows || column < 0 || column >= table.columns) {
            throw new IndexOutOfBoundsException("no such row or column");
        }
    }

    private static void demandSquare(Table table) {
        if (table.rows != table.columns) {
            throw new UnsupportedOperationException("the matrix is not square");
        }
    }

    private static boolean hasBit(int bits, int place) {
        return (bits >> place & 1) != 0;
    }

    /** The buffer. */
    private static final class Tape {
        private static final char NO_SIGN = 0;
        private static final int WINDOW = 3;

        private final char[] signs;
        private int size;

        private Tape() {
            signs = new char[MOST_SIGNS];
        }

        private static boolean isSign(char sign) {
            return letterOf(sign) >= 0 || sign == 'L' || sign == 'R' || sign == ',';
        }

        private static int letterOf(char sign) {
            return sign >= 'a' && sign <= 'c' ? sign - 'a' : -1;
        }

        private static char signOf(int letter) {
            return (char) ('a' + letter);
        }

        private char at(int index) {
            return index >= 0 && index < size && index < signs.length ? signs[index] : NO_SIGN;
        }

        private int letterAt(int index) {
            return letterOf(at(index));
        }

        private void append(char sign) {
            if (size >= 0 && size < signs.length) {
                signs[size] = sign;
                size++;
            }
        }

        private void empty() {
            size = 0;
        }

        private boolean isInBounds() {
            boolean holds = size >= 0 && size <= signs.length;
            for (int i = 0; i < size; i++) {
                holds = holds && isSign(at(i));
            }
            return holds;
        }

        private boolean hasOnlyLetters(int letters) {
            for (int i = 0; i < size; i++) {
                int letter = letterAt(i);
                if (letter < 0 || letter >= letters) {
                    return false;
                }
            }
            return true;
        }

        /** The place of the first comma, or -1. */
        private int firstComma() {
            for (int i = 0; i < size; i++) {
                if (at(i) == ',') {
                    return i;
                }
            }
            return -1;
        }

        private boolean endsWord(int index) {
            return index >= size || at(index) == ',';
        }

        /** Whether it is words of 1 to 3 letters with commas between; an empty one is none of them. */
        private boolean isForbidden(int letters) {
            int run = 0;
            for (int i = 0; i <= size && size > 0; i++) {
                int letter = letterAt(i);
                if (endsWord(i)) {
                    if (run < 1 || run > WINDOW) {
                        return false;
                    }
                    run = 0;
                } else if (letter < 0 || letter >= letters) {
                    return false;
                } else {
                    run++;
                }
            }
            return true;
        }

        private boolean bars(int first, int second, int third) {
            int start = 0;
            for (int i = 0; i <= size; i++) {
                if (endsWord(i)) {
                    if (standsIn(start, i, first, second, third)) {
                        return true;
                    }
                    start = i + 1;
                }
            }
            return false;
        }

        private boolean standsIn(int start, int end, int first, int second, int third) {
            int length = end - start;
            for (int offset = 0; length > 0 && offset + length <= WINDOW; offset++) {
                boolean fits = true;
                for (int i = 0; i < length; i++) {
                    int place = offset + i;
                    int letter = place == 0 ? first : place == 1 ? second : third;
                    fits = fits && letterAt(start + i) == letter;
                }
                if (fits) {
                    return true;
                }
            }
            return false;
        }

        private void slideBy(Block block) {
            for (int i = 0; i + 1 < size && i < signs.length; i++) {
                signs[i] = signOf(block.given(letterAt(i), letterAt(i + 1)));
            }
            if (size > 0) {
                size--;
            }
        }
    }

    /** A graph whose edges bear letters; sets of states are bits. */
    private static final class Graph {
        private final int states;
        private final int letters;
        /** Where the edges go, as bits of states, by letter and then by state. */
        private final int[] edges;

        private Graph(int states, int letters) {
            this.states = states;
            this.letters = letters;
            this.edges = new int[MOST_LETTERS * MOST_STATES];
        }

        private boolean hasState(int state) {
            return state >= 0 && state < states;
        }

        private boolean hasLetter(int letter) {
            return letter >= 0 && letter < letters;
        }

        private boolean isInBounds() {
            return states >= 1 && states <= MOST_STATES && letters >= 2 && letters <= MOST_LETTERS;
        }

        private int targets(int state, int letter) {
            int place = letter * MOST_STATES + state;
            boolean isThere = state >= 0 && state < states && letter >= 0 && letter < letters;
            return isThere && place >= 0 && place < edges.length ? edges[place] : 0;
        }

        private void tell(int from, int letter, int to, boolean isThere) {
            int place = letter * MOST_STATES + from;
            boolean isKnown = hasState(from) && hasLetter(letter) && hasState(to);
            if (isKnown && place >= 0 && place < edges.length) {
                int bit = 1 << to;
                edges[place] = isThere ? edges[place] | bit : edges[place] & ~bit;
            }
        }

        private int countEdges() {
            int count = 0;
            for (int i = 0; i < edges.length; i++) {
                count += Integer.bitCount(edges[i]);
            }
            return count;
        }

        private int allTargets(int state) {
            int reached = 0;
            for (int letter = 0; letter < letters; letter++) {
                reached |= targets(state, letter);
            }
            return reached;
        }

        private int read(int set, int letter) {
            int reached = 0;
            for (int state = 0; state < states && set >> state != 0; state++) {
                if (hasBit(set, state)) {
                    reached |= targets(state, letter);
                }
            }
            return reached;
        }

        /**
         * The states that are not stranded. The neighbours on an endless way have one too, so these
         * are what is left, when those without an edge in or out go, again and again.
         */
        private int liveSet() {
            int live = (1 << states) - 1;
            for (int round = 0; round < MOST_STATES; round++) {
                int kept = live & entered(live) & leaving(live);
                if (kept == live) {
                    break;
                }
                live = kept;
            }
            return live;
        }

        private int entered(int set) {
            int reached = 0;
            for (int state = 0; state < states; state++) {
                if (hasBit(set, state)) {
                    reached |= allTargets(state);
                }
            }
            return reached;
        }

        private int leaving(int set) {
            int found = 0;
            for (int state = 0; state < states; state++) {
                if ((allTargets(state) & set) != 0) {
                    found |= 1 << state;
                }
            }
            return found;
        }

        private boolean isDeterministic() {
            int live = liveSet();
            for (int state = 0; state < states; state++) {
                for (int letter = 0; letter < letters && hasBit(live, state); letter++) {
                    if (Integer.bitCount(targets(state, letter) & live) > 1) {
                        return false;
                    }
                }
            }
            return true;
        }
    }

    /** Makes graphs from forbidden words, from gaps and from codes. */
    private static final class Maker {
        private static final int MOST_GAPS = 8;

        private static Graph byForbidden(Tape tape, int letters) {
            Graph made = new Graph(letters * letters, letters);
            for (int x = 0; x < letters; x++) {
                for (int y = 0; y < letters; y++) {
                    for (int z = 0; z < letters; z++) {
                        made.tell(letters * x + y, z, letters * y + z, !tape.bars(x, y, z));
                    }
                }
            }
            return made;
        }

        private static Graph byGaps(int gaps) {
            int states = 0;
            for (int length = 0; length < MOST_GAPS; length++) {
                if (hasBit(gaps, length)) {
                    states = length + 1;
                }
            }
            Graph made = new Graph(states, 2);
            for (int state = 0; state < states; state++) {
                made.tell(state, 0, state + 1, state + 1 < states);
                made.tell(state, 1, 0, hasBit(gaps, state));
            }
            return made;
        }

        /**
         * The states that are not stranded and to which a letter leads: a pair of a state and a
         * letter is not stranded just if the state is one of these.
         */
        private static int arrivals(Graph graph, int live, int letter) {
            return graph.read(live, letter) & live;
        }

        private static int countPairs(Graph graph, int live) {
            int count = 0;
            for (int letter = 0; letter < graph.letters; letter++) {
                count += Integer.bitCount(arrivals(graph, live, letter));
            }
            return count;
        }

        /** The new numbers of the pairs, -1 for stranded ones. */
        private static int[] numberPairs(Graph graph, int live) {
            int[] numbers = new int[MOST_STATES * MOST_LETTERS];
            Arrays.fill(numbers, -1);
            for (int letter = 0; letter < graph.letters; letter++) {
                int reached = arrivals(graph, live, letter);
                for (int state = 0; state < graph.states; state++) {
                    int place = MOST_LETTERS * state + letter;
                    if (hasBit(reached, state) && place < numbers.length) {
                        numbers[place] = 0;
                    }
                }
            }
            int count = 0;
            for (int i = 0; i < numbers.length; i++) {
                if (numbers[i] >= 0) {
                    numbers[i] = count;
                    count++;
                }
            }
            return numbers;
        }

        private static Graph byImage(Block block, Graph graph) {
            int live = graph.liveSet();
            Graph made = new Graph(countPairs(graph, live), graph.letters);
            int[] numbers = numberPairs(graph, live);
            for (int state = 0; state < graph.states; state++) {
                for (int letter = 0; letter < graph.letters; letter++) {
                    int from = numberOf(numbers, state, letter);
                    for (int then = 0; from >= 0 && then < graph.letters; then++) {
                        int given = block.given(letter, then);
                        drawTo(made, numbers, from, given, then, graph.targets(state, then));
                    }
                }
            }
            return made;
        }

        private static int numberOf(int[] numbers, int state, int letter) {
            int place = MOST_LETTERS * state + letter;
            return place >= 0 && place < numbers.length ? numbers[place] : -1;
        }

        private static void drawTo(Graph made, int[] numbers, int from, int given, int letter, int targets) {
            for (int state = 0; state < MOST_STATES; state++) {
                int to = numberOf(numbers, state, letter);
                if (hasBit(targets, state) && to >= 0) {
                    made.tell(from, given, to, true);
                }
            }
        }
    }

    /** Reads words along the edges of graphs; its rows are made once and used by each call anew. */
    private static final class Reader {
        private static final int LONGEST_WORD = 10;
        private static final int LONGEST_ROW = 7;
        private static final int LONGEST_CODED = 5;
        private static final int MOST_SETS = 60;
        private static final int MOST_PAIRS = 400;
        private static final int SLOTS = 1024;
        private static final int ALL_ROWS = 2187;
        private static final int ALL_CODED = 243;

        private final int[] knownSet;
        private final int[] knownLeft;
        private final int[] knownCount;
        private final int[] row;
        private final int[] sets;
        private final int[] moves;
        private final int[] kinds;
        private final int[] finer;
        private final int[] firsts;
        private final int[] seconds;
        private final int[] marks;

        private Reader() {
            knownSet = new int[SLOTS];
            knownLeft = new int[SLOTS];
            knownCount = new int[SLOTS];
            row = new int[LONGEST_ROW];
            sets = new int[MOST_SETS];
            moves = new int[MOST_SETS * MOST_LETTERS];
            kinds = new int[MOST_SETS];
            finer = new int[MOST_SETS];
            firsts = new int[MOST_PAIRS];
            seconds = new int[MOST_PAIRS];
            marks = new int[ALL_CODED];
        }

        private static boolean canRead(Graph graph, Tape tape) {
            int live = graph.liveSet();
            int set = live;
            for (int i = 0; i < tape.size && set != 0; i++) {
                set = graph.read(set, tape.letterAt(i)) & live;
            }
            return set != 0;
        }

        private int countWords(Graph graph, int length) {
            Arrays.fill(knownLeft, -1);
            int live = graph.liveSet();
            return countOn(this, graph, live, live, length);
        }

        /**
         * How many words of a length can be read from a set. Many words lead to few sets, so what
         * was counted is kept in slots, where a later one may push out an earlier one.
         */
        private static int countOn(Reader reader, Graph graph, int live, int set, int left) {
            if (set == 0 || left > LONGEST_WORD) {
                return 0;
            }
            if (left <= 0) {
                return 1;
            }
            int slot = slotOf(set, left);
            int known = reader.recall(slot, set, left);
            if (known >= 0) {
                return known;
            }
            int count = 0;
            for (int letter = 0; letter < graph.letters; letter++) {
                count += countOn(reader, graph, live, graph.read(set, letter) & live, left - 1);
            }
            reader.keep(slot, set, left, count);
            return count;
        }

        private static int slotOf(int set, int left) {
            int mixed = set * 31 + left;
            mixed ^= mixed >>> 10 ^ mixed >>> 20;
            return mixed & SLOTS - 1;
        }

        /** The count that is kept in a slot, or -1. */
        private int recall(int slot, int set, int left) {
            if (slot < 0 || slot >= knownSet.length || slot >= knownLeft.length || slot >= knownCount.length) {
                return -1;
            }
            return knownSet[slot] == set && knownLeft[slot] == left ? knownCount[slot] : -1;
        }

        private void keep(int slot, int set, int left, int count) {
            if (slot >= 0 && slot < knownSet.length && slot < knownLeft.length && slot < knownCount.length) {
                knownSet[slot] = set;
                knownLeft[slot] = left;
                knownCount[slot] = count;
            }
        }

        private int countPoints(Graph graph, int length) {
            int live = graph.liveSet();
            int count = 0;
            Arrays.fill(row, 0);
            for (int turn = 0; turn < ALL_ROWS; turn++) {
                if (isPoint(graph, live, length)) {
                    count++;
                }
                if (!isAdvanced(graph.letters, length)) {
                    break;
                }
            }
            return count;
        }

        /** Makes the row the next one by letters; not, if it was the last one. */
        private boolean isAdvanced(int letters, int length) {
            for (int i = 0; i < length && i < row.length; i++) {
                if (row[i] + 1 < letters) {
                    row[i]++;
                    return true;
                }
                row[i] = 0;
            }
            return false;
        }

        /** Reads the row over and over: the sets only shrink, so one that stays is on a cycle. */
        private boolean isPoint(Graph graph, int live, int length) {
            int set = live;
            for (int round = 0; round < MOST_STATES && set != 0; round++) {
                int later = readRow(graph, live, set, length);
                if (later == set) {
                    break;
                }
                set = later;
            }
            return set != 0;
        }

        private int readRow(Graph graph, int live, int set, int length) {
            int reached = set;
            for (int i = 0; i < length && i < row.length && reached != 0; i++) {
                reached = graph.read(reached, row[i]) & live;
            }
            return reached;
        }

        private boolean keepsUnlike(Block block, Graph graph, int length) {
            int live = graph.liveSet();
            Arrays.fill(row, 0);
            Arrays.fill(marks, 0);
            for (int turn = 0; turn < ALL_CODED; turn++) {
                if (isPoint(graph, live, length)) {
                    int coded = codedRow(block, length);
                    if (coded < 0 || coded >= marks.length || marks[coded] != 0) {
                        return false;
                    }
                    marks[coded] = 1;
                }
                if (!isAdvanced(graph.letters, length)) {
                    break;
                }
            }
            return true;
        }

        /** What the row becomes, as a number whose digits are letters. */
        private int codedRow(Block block, int length) {
            int coded = 0;
            for (int i = 0; i < length; i++) {
                int then = i + 1 < length ? i + 1 : 0;
                coded = MOST_LETTERS * coded + block.given(rowAt(i), rowAt(then));
            }
            return coded;
        }

        private int rowAt(int index) {
            return index >= 0 && index < row.length ? row[index] : 0;
        }

        /** How many unlike futures there are, or -1, if there are too many sets. */
        private int countFutures(Graph graph) {
            int count = collectSets(graph);
            if (count < 0) {
                return -1;
            }
            int kindCount = count > 0 ? 1 : 0;
            Arrays.fill(kinds, 0);
            for (int round = 0; round < MOST_SETS; round++) {
                int later = refine(count, graph.letters);
                if (later <= kindCount) {
                    break;
                }
                kindCount = later;
            }
            return kindCount;
        }

        /** Finds the sets that words lead to and where letters lead from them; -1, if too many. */
        private int collectSets(Graph graph) {
            int live = graph.liveSet();
            int count = live == 0 ? 0 : 1;
            keepSet(0, live);
            for (int i = 0; i < count && i < sets.length; i++) {
                for (int letter = 0; letter < graph.letters; letter++) {
                    int later = graph.read(sets[i], letter) & live;
                    int found = later == 0 ? -1 : placeOfSet(later, count);
                    if (found == count) {
                        if (count >= MOST_SETS) {
                            return -1;
                        }
                        keepSet(count, later);
                        count++;
                    }
                    noteMove(i, letter, found);
                }
            }
            return count;
        }

        private void keepSet(int place, int set) {
            if (place >= 0 && place < sets.length) {
                sets[place] = set;
            }
        }

        /** Where a set stands among the first ones, or how many these are. */
        private int placeOfSet(int set, int count) {
            for (int i = 0; i < count && i < sets.length; i++) {
                if (sets[i] == set) {
                    return i;
                }
            }
            return count;
        }

        private void noteMove(int set, int letter, int to) {
            int place = MOST_LETTERS * set + letter;
            if (place >= 0 && place < moves.length) {
                moves[place] = to;
            }
        }

        /** Parts the sets by their kinds and by those of the sets behind them; how many kinds then. */
        private int refine(int count, int letters) {
            int kindCount = 0;
            for (int i = 0; i < count && i < finer.length; i++) {
                int like = firstLike(i, letters);
                if (like < i && like >= 0) {
                    finer[i] = finer[like];
                } else {
                    finer[i] = kindCount;
                    kindCount++;
                }
            }
            for (int i = 0; i < count && i < kinds.length && i < finer.length; i++) {
                kinds[i] = finer[i];
            }
            return kindCount;
        }

        private int firstLike(int set, int letters) {
            for (int i = 0; i < set; i++) {
                boolean isLike = kindOf(i) == kindOf(set);
                for (int letter = 0; letter < letters && isLike; letter++) {
                    isLike = kindBehind(i, letter) == kindBehind(set, letter);
                }
                if (isLike) {
                    return i;
                }
            }
            return set;
        }

        private int kindOf(int set) {
            return set >= 0 && set < kinds.length ? kinds[set] : -1;
        }

        private int kindBehind(int set, int letter) {
            int place = MOST_LETTERS * set + letter;
            return place >= 0 && place < moves.length ? kindOf(moves[place]) : -1;
        }

        /**
         * 1, if two graphs have the same words, 0, if not, -1, if too many pairs are met. A pair is
         * judged ahead of being counted, as an unlike one may be the 401st.
         */
        private int match(Graph one, Graph other) {
            int oneLive = one.liveSet();
            int otherLive = other.liveSet();
            if (isUnlike(oneLive, otherLive)) {
                return 0;
            }
            keepPair(0, oneLive, otherLive);
            int count = 1;
            for (int i = 0; i < count && i < firsts.length && i < seconds.length; i++) {
                int oneSet = firsts[i];
                int otherSet = seconds[i];
                for (int letter = 0; letter < one.letters && oneSet != 0; letter++) {
                    int first = one.read(oneSet, letter) & oneLive;
                    int second = other.read(otherSet, letter) & otherLive;
                    if (isUnlike(first, second)) {
                        return 0;
                    }
                    if (!isMet(first, second, count)) {
                        if (count >= MOST_PAIRS) {
                            return -1;
                        }
                        keepPair(count, first, second);
                        count++;
                    }
                }
            }
            return 1;
        }

        private void keepPair(int place, int first, int second) {
            if (place >= 0 && place < firsts.length && place < seconds.length) {
                firsts[place] = first;
                seconds[place] = second;
            }
        }

        private static boolean isUnlike(int first, int second) {
            return (first == 0) != (second == 0);
        }

        private boolean isMet(int first, int second, int count) {
            for (int i = 0; i < count && i < firsts.length && i < seconds.length; i++) {
                if (firsts[i] == first && seconds[i] == second) {
                    return true;
                }
            }
            return false;
        }
    }

    /** The ways through a graph, whatever the letters: its parts and their periods. */
    private static final class Ways {
        private final int[] reach;
        private final int[] levels;

        private Ways() {
            reach = new int[MOST_STATES];
            levels = new int[MOST_STATES];
        }

        /** Only ways with an edge count: a state that none brings back is in no part. */
        private void follow(Graph graph) {
            for (int state = 0; state < reach.length; state++) {
                reach[state] = graph.allTargets(state);
            }
            for (int middle = 0; middle < reach.length; middle++) {
                for (int state = 0; state < reach.length; state++) {
                    if (hasBit(reach[state], middle)) {
                        reach[state] |= reach[middle];
                    }
                }
            }
        }

        /** The states of the part with a state, as bits; none, if it is in no part. */
        private int partOf(int state) {
            int part = 0;
            for (int other = 0; other < reach.length; other++) {
                if (hasBit(reachOf(state), other) && hasBit(reach[other], state)) {
                    part |= 1 << other;
                }
            }
            return part;
        }

        private int reachOf(int state) {
            return state >= 0 && state < reach.length ? reach[state] : 0;
        }

        private int countParts(Graph graph) {
            follow(graph);
            int count = 0;
            for (int state = 0; state < graph.states; state++) {
                int part = partOf(state);
                boolean isLeast = (part & (1 << state) - 1) == 0;
                if (part != 0 && isLeast) {
                    count++;
                }
            }
            return count;
        }

        private boolean isOnePart(Graph graph) {
            follow(graph);
            int live = graph.liveSet();
            for (int state = 0; state < graph.states; state++) {
                if (hasBit(live, state)) {
                    return partOf(state) == live;
                }
            }
            return false;
        }

        /** The period of the part with a state, or 0, if it is in none. */
        private int findPeriod(Graph graph, int state) {
            follow(graph);
            int part = partOf(state);
            if (part == 0) {
                return 0;
            }
            measure(graph, state, part);
            long common = 0;
            for (int from = 0; from < levels.length; from++) {
                for (int to = 0; to < levels.length; to++) {
                    if (hasBit(part, from) && hasBit(graph.allTargets(from) & part, to)) {
                        common = Algebra.commonDivisor(common, levels[from] + 1 - levels[to]);
                    }
                }
            }
            return (int) common;
        }

        /** Sets the levels: how many edges the shortest way from a state has. */
        private void measure(Graph graph, int state, int part) {
            Arrays.fill(levels, 0);
            int front = 1 << state;
            int seen = front;
            for (int level = 1; level <= MOST_STATES && front != 0; level++) {
                front = graph.entered(front) & part & ~seen;
                seen |= front;
                for (int i = 0; i < levels.length; i++) {
                    if (hasBit(front, i)) {
                        levels[i] = level;
                    }
                }
            }
        }
    }

    /** A code: a letter for each pair of letters. */
    private static final class Block {
        private final int letters;
        private final int[] gives;

        private Block(int letters) {
            this.letters = letters;
            this.gives = new int[MOST_LETTERS * MOST_LETTERS];
        }

        private boolean hasLetter(int letter) {
            return letter >= 0 && letter < letters;
        }

        private int given(int first, int second) {
            int place = MOST_LETTERS * first + second;
            return hasLetter(first) && hasLetter(second) && place < gives.length ? gives[place] : 0;
        }

        private void give(int first, int second, int letter) {
            int place = MOST_LETTERS * first + second;
            if (hasLetter(first) && hasLetter(second) && place < gives.length) {
                gives[place] = letter;
            }
        }

        private boolean isInBounds() {
            boolean holds = letters >= 2 && letters <= MOST_LETTERS;
            for (int i = 0; i < gives.length; i++) {
                holds = holds && hasLetter(gives[i]);
            }
            return holds;
        }
    }

    /** A matrix of whole numbers, with room for up to 12 rows and columns. */
    private static final class Table {
        private static final int WIDEST = 12;

        private int rows;
        private int columns;
        private final long[] numbers;

        private Table() {
            numbers = new long[WIDEST * WIDEST];
        }

        private boolean hasShape(int rows, int columns) {
            return this.rows == rows && this.columns == columns;
        }

        /** Its numbers keep their room in each shape, so that no shape needs a new array. */
        private void reshape(int rows, int columns) {
            this.rows = rows;
            this.columns = columns;
            Arrays.fill(numbers, 0L);
        }

        private int placeOf(int row, int column) {
            boolean isThere = row >= 0 && row < rows && column >= 0 && column < columns && column < WIDEST;
            return isThere ? WIDEST * row + column : -1;
        }

        private long at(int row, int column) {
            int place = placeOf(row, column);
            return place >= 0 && place < numbers.length ? numbers[place] : 0;
        }

        private void write(int row, int column, long number) {
            int place = placeOf(row, column);
            if (place >= 0 && place < numbers.length) {
                numbers[place] = number;
            }
        }

        private boolean isInBounds() {
            boolean holds = rows >= 1 && rows <= MOST_ROWS && columns >= 1 && columns <= MOST_ROWS;
            for (int i = 0; i < numbers.length; i++) {
                holds = holds && numbers[i] >= 0 && numbers[i] <= 9;
            }
            return holds;
        }

        private boolean isSameAs(Table other) {
            boolean isSame = other.hasShape(rows, columns);
            for (int row = 0; row < rows && isSame; row++) {
                for (int column = 0; column < columns; column++) {
                    isSame = isSame && at(row, column) == other.at(row, column);
                }
            }
            return isSame;
        }

        private long diagonalSum() {
            long sum = 0;
            for (int i = 0; i < rows; i++) {
                sum += at(i, i);
            }
            return sum;
        }

        private void copyFrom(Table other) {
            reshape(other.rows, other.columns);
            for (int row = 0; row < rows; row++) {
                for (int column = 0; column < columns; column++) {
                    write(row, column, other.at(row, column));
                }
            }
        }

        private void multiply(Table left, Table right) {
            reshape(left.rows, right.columns);
            for (int row = 0; row < rows; row++) {
                for (int column = 0; column < columns; column++) {
                    long sum = 0;
                    for (int middle = 0; middle < left.columns; middle++) {
                        sum += left.at(row, middle) * right.at(middle, column);
                    }
                    write(row, column, sum);
                }
            }
        }

        private void splitAt(int row, int column, long keeps) {
            int last = rows;
            long rest = at(row, column) - keeps;
            rows++;
            columns++;
            write(row, column, keeps);
            write(last, column, rest);
            for (int i = 0; i < rows; i++) {
                write(i, last, at(i, row));
            }
        }
    }

    /** Reckons with matrices and with the counts of ways; its rows are made once. */
    private static final class Algebra {
        private static final int MASKS = 32;
        private static final int MOST_TURNS = 200;

        private final Table first;
        private final Table second;
        private final Table third;
        private final long[] coefficients;
        private final long[] minors;
        private final long[] divisors;
        private final long[] counts;
        private final long[] later;

        private Algebra() {
            first = new Table();
            second = new Table();
            third = new Table();
            coefficients = new long[MOST_STATES + 1];
            minors = new long[MASKS * MASKS];
            divisors = new long[MOST_ROWS + 1];
            counts = new long[MOST_STATES];
            later = new long[MOST_STATES];
        }

        private static long commonDivisor(long one, long other) {
            long large = Math.abs(one);
            long small = Math.abs(other);
            for (int turn = 0; turn < MOST_TURNS && small != 0; turn++) {
                long rest = large % small;
                large = small;
                small = rest;
            }
            return large;
        }

        private long graphCoefficient(Graph graph, int power) {
            countBetween(graph);
            return coefficientOf(third, power);
        }

        /** The counts come into the third table, as the other two are needed for the coefficients. */
        private void countBetween(Graph graph) {
            int live = graph.liveSet();
            int size = Integer.bitCount(live);
            third.reshape(size, size);
            int row = 0;
            for (int from = 0; from < graph.states; from++) {
                if (hasBit(live, from)) {
                    countRow(graph, live, from, row);
                    row++;
                }
            }
        }

        private void countRow(Graph graph, int live, int from, int row) {
            int column = 0;
            for (int to = 0; to < graph.states; to++) {
                if (hasBit(live, to)) {
                    int count = 0;
                    for (int letter = 0; letter < graph.letters; letter++) {
                        count += graph.targets(from, letter) >> to & 1;
                    }
                    third.write(row, column, count);
                    column++;
                }
            }
        }

        /**
         * A coefficient of the determinant of 1 less t times a square table, by the way of Faddeev
         * and Leverrier, whose divisions leave no rest.
         */
        private long coefficientOf(Table table, int power) {
            Table held = first;
            Table spare = second;
            held.reshape(table.rows, table.rows);
            Arrays.fill(coefficients, 0L);
            long found = 1;
            keepCoefficient(0, found);
            for (int k = 1; k <= table.rows; k++) {
                for (int i = 0; i < table.rows; i++) {
                    held.write(i, i, held.at(i, i) + found);
                }
                spare.multiply(table, held);
                found = -spare.diagonalSum() / k;
                keepCoefficient(k, found);
                Table swapped = held;
                held = spare;
                spare = swapped;
            }
            return power >= 0 && power < coefficients.length ? coefficients[power] : 0;
        }

        private void keepCoefficient(int power, long number) {
            if (power >= 0 && power < coefficients.length) {
                coefficients[power] = number;
            }
        }

        /** A square table to a power of 1 or more; the answer stands until the next reckoning. */
        private Table powerOf(Table table, int times) {
            Table held = first;
            Table spare = second;
            held.copyFrom(table);
            for (int i = 1; i < times; i++) {
                spare.multiply(held, table);
                Table swapped = held;
                held = spare;
                spare = swapped;
            }
            return held;
        }

        private boolean isLikeBy(Table one, Table other, Table there, Table back) {
            first.multiply(one, there);
            second.multiply(there, other);
            if (!first.isSameAs(second)) {
                return false;
            }
            first.multiply(back, one);
            second.multiply(other, back);
            return first.isSameAs(second);
        }

        private boolean isPowerBy(Table table, Table left, Table right, int lag) {
            third.multiply(left, right);
            return third.isSameAs(powerOf(table, lag));
        }

        /**
         * A number on the diagonal to which 1 less a square table can be brought: the first of them
         * times one another are the greatest common divisor of the minors of as many rows.
         */
        private long diagonalNumber(Table table, int index) {
            findDivisors(table);
            long small = divisorOf(index);
            return small == 0 ? 0 : divisorOf(index + 1) / small;
        }

        /** The greatest common divisor of all minors of a size, which is 1 for none. */
        private long divisorOf(int size) {
            if (size == 0) {
                return 1;
            }
            return size > 0 && size < divisors.length ? divisors[size] : 0;
        }

        private void findDivisors(Table table) {
            Arrays.fill(divisors, 0L);
            int end = 1 << table.rows;
            for (int rows = 0; rows < end && rows < MASKS; rows++) {
                int size = Integer.bitCount(rows);
                for (int columns = 0; columns < end && columns < MASKS; columns++) {
                    if (Integer.bitCount(columns) == size) {
                        long minor = expand(table, rows, columns);
                        keepMinor(rows, columns, minor);
                        if (size < divisors.length) {
                            divisors[size] = commonDivisor(divisors[size], minor);
                        }
                    }
                }
            }
        }

        /** The minor of 1 less a table with some rows and columns, by those with one row less. */
        private long expand(Table table, int rows, int columns) {
            if (rows == 0) {
                return 1;
            }
            int row = Integer.bitCount((rows & -rows) - 1);
            long sum = 0;
            long sign = 1;
            for (int column = 0; column < table.rows; column++) {
                if (hasBit(columns, column)) {
                    long number = (row == column ? 1 : 0) - table.at(row, column);
                    sum += sign * number * minorOf(rows & rows - 1, columns & ~(1 << column));
                    sign = -sign;
                }
            }
            return sum;
        }

        private long minorOf(int rows, int columns) {
            int place = MASKS * rows + columns;
            return place >= 0 && place < minors.length ? minors[place] : 0;
        }

        private void keepMinor(int rows, int columns, long minor) {
            int place = MASKS * rows + columns;
            if (place >= 0 && place < minors.length) {
                minors[place] = minor;
            }
        }

        private long findBound(Graph graph, int steps, boolean isLow) {
            int live = graph.liveSet();
            Arrays.fill(counts, 1L);
            for (int step = 0; step < steps; step++) {
                for (int state = 0; state < later.length && state < counts.length; state++) {
                    later[state] = counts[state] + sumBehind(graph, live, state);
                }
                for (int state = 0; state < later.length && state < counts.length; state++) {
                    counts[state] = later[state];
                }
            }
            long best = -1;
            for (int state = 0; state < counts.length; state++) {
                long own = counts[state];
                if (hasBit(live, state) && own > 0) {
                    long together = 1000 * sumBehind(graph, live, state);
                    long share = (isLow ? together : together + own - 1) / own;
                    boolean isBetter = isLow ? share < best : share > best;
                    best = best < 0 || isBetter ? share : best;
                }
            }
            return best;
        }

        private long sumBehind(Graph graph, int live, int state) {
            long sum = 0;
            for (int letter = 0; letter < graph.letters; letter++) {
                int reached = graph.targets(state, letter) & live;
                for (int to = 0; to < counts.length; to++) {
                    if (hasBit(reached, to)) {
                        sum += counts[to];
                    }
                }
            }
            return sum;
        }
    }

    /** Itineraries of maps of the line, and the order of periods. */
    private static final class Lines {
        private static final int LONGEST = 12;

        private static boolean isRow(Tape tape, int start, int end) {
            if (end - start < 1 || end - start > LONGEST) {
                return false;
            }
            for (int i = start; i < end; i++) {
                if (tape.at(i) != 'L' && tape.at(i) != 'R') {
                    return false;
                }
            }
            return true;
        }

        /** 1, if the first row is greater, -1, if it is less, 0, if one ends ahead of that. */
        private static int order(Tape tape, int first, int firstEnd, int second, int secondEnd) {
            boolean isEven = true;
            for (int i = 0; first + i < firstEnd && second + i < secondEnd; i++) {
                boolean isR = tape.at(first + i) == 'R';
                boolean isOtherR = tape.at(second + i) == 'R';
                if (isR != isOtherR) {
                    return isR == isEven ? 1 : -1;
                }
                isEven = isEven != isR;
            }
            return 0;
        }

        private static boolean isTop(Tape tape) {
            for (int start = 1; start < tape.size; start++) {
                if (order(tape, start, tape.size, 0, tape.size) > 0) {
                    return false;
                }
            }
            return true;
        }

        private static boolean isAheadOrLevel(int period, int other) {
            int lowest = period & -period;
            int otherLowest = other & -other;
            boolean isPower = period == lowest;
            boolean isOtherPower = other == otherLowest;
            if (isPower || isOtherPower) {
                return isOtherPower && (!isPower || period >= other);
            }
            // with the same power of 2, the order of the numbers is that of their odd parts
            return lowest < otherLowest || lowest == otherLowest && period <= other;
        }
    }

    /** Cellular maps, on rows without end and on rings. */
    private static final class Cells {
        private static final int MOST_CELLS = 10;
        private static final int ALL_RINGS = 1024;
        private static final int ALL_PAIRS = 15;
        private static final int ALL_SETS = 16;

        private final int[] marks;

        private Cells() {
            marks = new int[ALL_RINGS];
        }

        /**
         * The length of the least word that none becomes, 0, if there is none. Sets of pairs of
         * cells, on which a row that becomes the word may end, are bits; met and front are bits of
         * such sets.
         */
        private static int leastOrphan(int rule) {
            int front = 1 << ALL_PAIRS;
            int met = front;
            for (int length = 1; length <= ALL_SETS && front != 0; length++) {
                int behind = 0;
                for (int pairs = 0; pairs < ALL_SETS; pairs++) {
                    if (hasBit(front, pairs)) {
                        behind |= 1 << extend(rule, pairs, 0) | 1 << extend(rule, pairs, 1);
                    }
                }
                if (hasBit(behind, 0)) {
                    return length;
                }
                front = behind & ~met;
                met |= behind;
            }
            return 0;
        }

        /** The pairs on which a row can end, if the next cell of the word is given. */
        private static int extend(int rule, int pairs, int cell) {
            int later = 0;
            for (int triple = 0; triple < 8; triple++) {
                if (hasBit(pairs, triple >> 1) && (rule >> triple & 1) == cell) {
                    later |= 1 << (triple & 3);
                }
            }
            return later;
        }

        private static int step(int rule, int cells, int ring) {
            int later = 0;
            for (int i = 0; i < cells; i++) {
                int ahead = i > 0 ? i - 1 : cells - 1;
                int behind = i + 1 < cells ? i + 1 : 0;
                int triple = 4 * (ring >> ahead & 1) + 2 * (ring >> i & 1) + (ring >> behind & 1);
                later |= (rule >> triple & 1) << i;
            }
            return later;
        }

        private boolean isInjective(int rule, int cells) {
            Arrays.fill(marks, 0);
            int end = 1 << cells;
            for (int ring = 0; ring < end; ring++) {
                int later = step(rule, cells, ring);
                if (later < 0 || later >= marks.length || marks[later] != 0) {
                    return false;
                }
                marks[later] = 1;
            }
            return true;
        }

        private int findRingPeriod(int rule, int cells, int ring) {
            Arrays.fill(marks, -1);
            int now = ring;
            for (int steps = 0; steps <= ALL_RINGS && now >= 0 && now < marks.length; steps++) {
                if (marks[now] >= 0) {
                    return steps - marks[now];
                }
                marks[now] = steps;
                now = step(rule, cells, now);
            }
            return 0;
        }
    }

    /** A substitution, and the row that it makes from a on. */
    private static final class Replacer {
        private static final int LONGEST = 4;
        private static final int ENOUGH = 200;
        private static final int MOST_TIMES = 12;

        private final int[] lengths;
        private final int[] letters;
        private final int[] row;
        private final int[] spare;

        private Replacer() {
            lengths = new int[MOST_LETTERS];
            letters = new int[MOST_LETTERS * LONGEST];
            row = new int[ENOUGH];
            spare = new int[ENOUGH];
            for (int letter = 0; letter < lengths.length; letter++) {
                lengths[letter] = 1;
                int place = LONGEST * letter;
                if (place < letters.length) {
                    letters[place] = letter;
                }
            }
        }

        private int lengthOf(int letter) {
            return letter >= 0 && letter < lengths.length ? lengths[letter] : 0;
        }

        private void learn(int letter, Tape tape) {
            for (int i = 0; i < tape.size && i < LONGEST; i++) {
                int place = LONGEST * letter + i;
                if (place >= 0 && place < letters.length) {
                    letters[place] = tape.letterAt(i);
                }
            }
            if (letter >= 0 && letter < lengths.length) {
                lengths[letter] = tape.size;
            }
        }

        /** Makes the row and tells its length. Letters behind the last place change none ahead of it. */
        private int grow() {
            Arrays.fill(row, 0);
            int size = 1;
            for (int time = 0; time < MOST_TIMES && size < ENOUGH; time++) {
                int grown = 0;
                for (int i = 0; i < size && i < row.length; i++) {
                    grown = replace(row[i], grown);
                }
                for (int i = 0; i < row.length && i < spare.length; i++) {
                    row[i] = spare[i];
                }
                size = grown;
            }
            return size;
        }

        /** Puts what a letter becomes behind the first spare ones; what has no place is left out. */
        private int replace(int letter, int grown) {
            int end = grown;
            for (int i = 0; i < lengthOf(letter); i++) {
                int place = LONGEST * letter + i;
                if (end >= 0 && end < spare.length && place >= 0 && place < letters.length) {
                    spare[end] = letters[place];
                    end++;
                }
            }
            return end;
        }

        private int countUnlike(int length) {
            int size = grow();
            int count = 0;
            for (int start = 0; start + length <= size; start++) {
                int word = wordAt(start, length);
                if (!isFound(word, count) && count < spare.length) {
                    spare[count] = word;
                    count++;
                }
            }
            return count;
        }

        /** A word of the row, as a number whose digits are letters. */
        private int wordAt(int start, int length) {
            int word = 0;
            for (int i = start; i < start + length; i++) {
                word = MOST_LETTERS * word + (i >= 0 && i < row.length ? row[i] : 0);
            }
            return word;
        }

        private boolean isFound(int word, int count) {
            for (int i = 0; i < count && i < spare.length; i++) {
                if (spare[i] == word) {
                    return true;
                }
            }
            return false;
        }
    }
}
