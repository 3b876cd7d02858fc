/** Promises 1 to 7: a new object, the buffer, and how shifts are made. */
public final class MakingBoundaryTests extends Sentences {
    public static void main(String[] args) {
        newObject();
        signsOfBuffer();
        shifts();
        edges();
        forbidden();
        forbiddenPairs();
        gaps();
        end();
    }

    private static void newObject() {
        sentence("Creates a house without shifts", () -> {
            refused(INDEX, () -> x().states(0));
            is(0L, () -> x().checksum());
            refused(ZERO, () -> x().liveShare());
            refused(ZERO, () -> x().meanEdges());
            is(0, () -> x().shift(1, 2));
        });
        sentence("Creates a house without codes", () -> {
            refused(INDEX, () -> x().set(0, 'a', 'a', 'a'));
            is(0, () -> x().code(2));
        });
        sentence("Creates a house without matrices", () -> {
            refused(INDEX, () -> x().get(0, 0, 0));
            is(0, () -> x().matrix(1, 1));
        });
        sentence("A new object's buffer is empty", () -> {
            refused(NONE, () -> x().signAt(0));
            is(0, () -> x().clear());
        });
        sentence("An object is used for at most 512 calls: the last one is answered as the first one", () -> {
            x().shift(1, 2);
            for (int i = 0; i < 127; i++) {
                is(false, () -> x().edge(0, 0, 'b', 0, true));
                is(1, () -> x().type('L'));
                is(true, () -> x().edge(0, 0, 'b', 0, false));
                is(1, () -> x().clear());
            }
            is(1, () -> x().shift(1, 2));
            is(INDEX, () -> x().states(2));
            is(0L, () -> x().checksum());
        });
        sentence("An object shares nothing with another one", () -> {
            furnish();
            given(() -> { });
            is(INDEX, () -> x().states(0));
            is(INDEX, () -> x().set(0, 'a', 'a', 'a'));
            is(INDEX, () -> x().get(0, 0, 0));
            is(0, () -> x().clear());
            is(0, () -> x().complexity(2));
        });
    }

    private static void signsOfBuffer() {
        sentence("none of a, b, c, L, R and the comma", () -> {
            int count = 0;
            for (char sign : "abcLR,".toCharArray()) {
                int due = ++count;
                is(due, () -> x().type(sign));
                is(sign, () -> x().signAt(due - 1));
            }
            given(Sentences::furnish);
            for (char sign : new char[] {'`', 'd', 'K', 'M', 'Q', 'S', '+', '-', 'A', 'B', 'C', 'l', 'r', ' ', 0,
                (char) 233, (char) ('a' + 256), (char) (',' + 256), (char) 65535}) {
                refused(RANGE, () -> x().type(sign));
            }
        });
        sentence("Throws IllegalStateException if 40 are there", () -> {
            for (int i = 1; i <= 40; i++) {
                int due = i;
                is(due, () -> x().type(due % 2 == 0 ? 'L' : ','));
            }
            given(() -> furnishWith(times("abcL", 10)));
            for (char sign : "abcLR,".toCharArray()) {
                refused(STATE, () -> x().type(sign));
            }
            is('L', () -> x().signAt(39));
            given(() -> furnishWith(times("abcL", 9) + "abc"));
            is(40, () -> x().type('R'));
            is(STATE, () -> x().type('R'));
        });
        sentence("clear returns how many were there", () -> {
            is(0, () -> x().clear());
            x().type(',');
            is(1, () -> x().clear());
            is(0, () -> x().clear());
            type(times("R", 40));
            is(40, () -> x().clear());
            is(NONE, () -> x().signAt(0));
            is(1, () -> x().type('c'));
            is('c', () -> x().signAt(0));
            is(NONE, () -> x().signAt(1));
        });
        sentence("Throws NoSuchElementException if there is no such sign", () -> {
            given(Sentences::furnish);
            beyond(0, 4, NONE, i -> x().signAt(i));
            is('a', () -> x().signAt(0));
            is(',', () -> x().signAt(4));
            given(() -> furnishWith(times("a", 39) + "R"));
            beyond(0, 39, NONE, i -> x().signAt(i));
            is('R', () -> x().signAt(39));
            given(() -> furnishWith(""));
            beyond(0, -1, NONE, i -> x().signAt(i));
        });
    }

    private static void shifts() {
        sentence("how many states, 1 to 12", () -> {
            given(Sentences::furnish);
            beyond(1, 12, RANGE, n -> x().shift(n, 2));
            is(3, () -> x().shift(1, 2));
            is(false, () -> x().edge(3, 0, 'a', 0, true));
            is(RANGE, () -> x().edge(3, 1, 'a', 0, true));
            is(4, () -> x().shift(12, 2));
            is(false, () -> x().edge(4, 11, 'b', 11, true));
            is(RANGE, () -> x().edge(4, 12, 'a', 0, true));
        });
        sentence("letters: 2 or 3", () -> {
            given(Sentences::furnish);
            beyond(2, 3, RANGE, n -> x().shift(1, n));
            is(3, () -> x().shift(1, 2));
            is(RANGE, () -> x().edge(3, 0, 'c', 0, true));
            is(4, () -> x().shift(1, 3));
            is(false, () -> x().edge(4, 0, 'c', 0, true));
        });
        sentence("Adds a shift without edges", () -> {
            is(0, () -> x().shift(12, 3));
            is(0, () -> x().states(0));
            is(0.0, () -> x().meanEdges());
            is(0L, () -> x().checksum());
        });
        sentence("At most 8 shifts are numbered from 0: by shift", () -> {
            for (int i = 0; i < 8; i++) {
                int due = i;
                is(due, () -> x().shift(1, 2));
            }
            given(() -> furnishFull("ab"));
            refused(STATE, () -> x().shift(1, 2));
            refused(STATE, () -> x().shift(12, 3));
            refused(INDEX, () -> x().states(8));
        });
        sentence("At most 8 shifts are numbered from 0: by forbid", () -> {
            for (int i = 0; i < 8; i++) {
                int due = i;
                is(due, () -> forbid("bb", 2));
            }
            given(() -> furnishFull("ab"));
            refused(STATE, () -> x().forbid(2));
            refused(STATE, () -> x().forbid(3));
            given(() -> furnishFull(""));
            refused(STATE, () -> x().forbid(2));
        });
        sentence("At most 8 shifts are numbered from 0: by gaps", () -> {
            for (int i = 0; i < 8; i++) {
                int due = i;
                is(due, () -> x().gaps(due + 1));
            }
            given(() -> furnishFull("ab"));
            refused(STATE, () -> x().gaps(1));
            refused(STATE, () -> x().gaps(255));
        });
        sentence("At most 8 shifts are numbered from 0: by image", () -> {
            graph(1, 2, "0a0 0b0");
            code("abba");
            for (int i = 1; i < 8; i++) {
                int due = i;
                is(due, () -> x().image(0, 0));
            }
            given(() -> furnishFull("ab"));
            refused(STATE, () -> x().image(0, 0));
            refused(STATE, () -> x().image(1, 1));
        });
        sentence("At most 8 shifts: those before stay as they are", () -> {
            given(() -> furnishFull("bb"));
            is(STATE, () -> x().forbid(2));
            is("bb", () -> buffer(2));
            is(2, () -> x().states(0));
            is(0, () -> x().states(7));
            is(RANGE, () -> x().edge(7, 1, 'a', 0, true));
        });
    }

    private static void edges() {
        sentence("edge throws IndexOutOfBoundsException if there is no such shift", () -> {
            given(Sentences::furnish);
            beyond(0, 2, INDEX, i -> x().edge(i, 0, 'a', 0, true));
            is(true, () -> x().edge(0, 0, 'a', 0, true));
            is(true, () -> x().edge(2, 0, 'a', 0, true));
        });
        sentence("edge throws IllegalArgumentException if there is no such letter in it", () -> {
            given(Sentences::furnish);
            for (char letter : otherSigns(2)) {
                refused(RANGE, () -> x().edge(0, 0, letter, 0, true));
                refused(RANGE, () -> x().edge(2, 0, letter, 0, false));
            }
            for (char letter : otherSigns(3)) {
                refused(RANGE, () -> x().edge(1, 0, letter, 0, true));
            }
            is(false, () -> x().edge(0, 0, 'b', 0, false));
            is(true, () -> x().edge(1, 1, 'c', 0, false));
        });
        sentence("edge throws IllegalArgumentException if there is no such state", () -> {
            given(Sentences::furnish);
            beyond(0, 2, RANGE, from -> x().edge(0, from, 'a', 0, true));
            beyond(0, 2, RANGE, to -> x().edge(0, 0, 'a', to, true));
            beyond(0, 3, RANGE, from -> x().edge(2, from, 'a', 0, false));
            beyond(0, 3, RANGE, to -> x().edge(2, 0, 'a', to, false));
            is(true, () -> x().edge(0, 2, 'a', 0, false));
            is(false, () -> x().edge(0, 0, 'a', 2, true));
            is(true, () -> x().edge(2, 2, 'b', 1, true));
            is(false, () -> x().edge(2, 3, 'b', 3, false));
        });
        sentence("Puts an edge into a graph, or takes it out; returns whether it was", () -> {
            graph(2, 2, "");
            is(false, () -> x().edge(0, 0, 'a', 1, false));
            is(0L, () -> x().checksum());
            is(false, () -> x().edge(0, 0, 'a', 1, true));
            is(7L, () -> x().checksum());
            is(true, () -> x().edge(0, 0, 'a', 1, true));
            is(7L, () -> x().checksum());
            is(true, () -> x().edge(0, 0, 'a', 1, false));
            is(false, () -> x().edge(0, 0, 'a', 1, false));
            is(0L, () -> x().checksum());
        });
        sentence("edges from a state to a state with a letter, any two unlike ones", () -> {
            graph(2, 3, "0a1");
            is(false, () -> x().edge(0, 0, 'b', 1, true));
            is(false, () -> x().edge(0, 0, 'c', 1, true));
            is(false, () -> x().edge(0, 1, 'a', 0, true));
            is(false, () -> x().edge(0, 0, 'a', 0, true));
            is(false, () -> x().edge(0, 1, 'a', 1, true));
            is(6.0, () -> x().meanEdges());
            is(true, () -> x().edge(0, 0, 'a', 1, false));
            is(true, () -> x().edge(0, 0, 'b', 1, true));
            is(5.0, () -> x().meanEdges());
        });
        sentence("each of 12 states may have an edge to each with each of 3 letters", () -> {
            x().shift(12, 3);
            for (int i = 0; i < 432; i++) {
                x().edge(0, i / 36, (char) ('a' + i % 3), i / 3 % 12, true);
            }
            is(432.0, () -> x().meanEdges());
            is(12L + 7 * 432, () -> x().checksum());
            is(36000L, () -> x().growth(0, 6, true));
            is(36000L, () -> x().growth(0, 6, false));
            is(-36L, () -> x().series(0, 1));
            is(0L, () -> x().series(0, 12));
        });
    }

    private static void forbidden() {
        sentence("forbid: letters, 2 or 3", () -> {
            given(() -> furnishWith("bb"));
            beyond(2, 3, RANGE, n -> x().forbid(n));
            is(3, () -> x().forbid(2));
            given(() -> furnishWith("bb"));
            is(3, () -> x().forbid(3));
        });
        sentence("forbidden words, each of 1 to 3 letters", () -> {
            for (String words : new String[] {"a", "ab", "aba", "a,ab,aba", "aba,a"}) {
                given(() -> furnishWith(words));
                is(3, () -> x().forbid(2));
                is(0, () -> x().clear());
            }
            for (String words : new String[] {"abab", "a,abab", "abab,a", "ab,aaaa,b", "aaaaaaaaaaaaa"}) {
                given(() -> furnishWith(words));
                refused(UNFIT, () -> x().forbid(2));
            }
        });
        sentence("none of them empty: the comma with nothing beside it", () -> {
            for (String words : new String[] {",", "a,", ",a", "a,,b", ",,", "aba,bab,", ",aba,bab", "a,b,,"}) {
                given(() -> furnishWith(words));
                refused(UNFIT, () -> x().forbid(2));
                refused(UNFIT, () -> x().forbid(3));
            }
            given(() -> furnishWith("a,b"));
            is(3, () -> x().forbid(2));
        });
        sentence("an empty one forbids none", () -> {
            given(() -> furnishWith(""));
            is(3, () -> x().forbid(2));
            is(1024, () -> x().words(3, 10));
            is(4, () -> x().forbid(3));
            is(59049, () -> x().words(4, 10));
        });
        sentence("or has other letters", () -> {
            for (String words : new String[] {"c", "ac", "a,cb", "bbc"}) {
                given(() -> furnishWith(words));
                refused(UNFIT, () -> x().forbid(2));
                is(3, () -> x().forbid(3));
            }
            for (String words : new String[] {"L", "R", "aL", "Ra", "a,R", "a,bLb"}) {
                given(() -> furnishWith(words));
                refused(UNFIT, () -> x().forbid(2));
                refused(UNFIT, () -> x().forbid(3));
            }
        });
        sentence("forbid: the buffer is empty then", () -> {
            given(() -> furnishWith("aa,b"));
            is(3, () -> x().forbid(2));
            is(NONE, () -> x().signAt(0));
            is(0, () -> x().clear());
        });
        sentence("A full buffer, too, is forbidden words", () -> {
            given(() -> furnishWith(times("bb,", 12) + "bb,a"));
            is(3, () -> x().forbid(2));
            is(0, () -> x().states(3));
            given(() -> furnishWith(times("bb,", 12) + "bb,"));
            refused(UNFIT, () -> x().forbid(2));
            given(() -> furnishWith(times("bb,", 12) + "bbba"));
            refused(UNFIT, () -> x().forbid(2));
            given(() -> furnishWith(times("bb,", 12) + "bb,c"));
            refused(UNFIT, () -> x().forbid(2));
            is(3, () -> x().forbid(3));
            is(5, () -> x().words(3, 3));
        });
    }

    private static void forbiddenPairs() {
        sentence("a pair xy being told by as many letters as there are, times x, plus y: 2 letters", () -> {
            given(() -> forbid("", 2));
            String[] due = {"0a0", "0b1", "1a2", "1b3", "2a0", "2b1", "3a2", "3b3"};
            isJust(0, 4, 2, due);
            refused(RANGE, () -> x().edge(0, 4, 'a', 0, true));
            refused(RANGE, () -> x().edge(0, 0, 'c', 0, true));
        });
        sentence("a pair xy being told by as many letters as there are, times x, plus y: 3 letters", () -> {
            given(() -> forbid("", 3));
            is(27.0, () -> x().meanEdges());
            for (int i = 0; i < 27; i++) {
                int from = i / 3;
                int letter = i % 3;
                is(true, () -> x().edge(0, from, (char) ('a' + letter), 3 * (from % 3) + letter, true));
            }
            is(27.0, () -> x().meanEdges());
            is(true, () -> x().edge(0, 8, 'c', 8, true));
            refused(RANGE, () -> x().edge(0, 9, 'a', 0, true));
            refused(RANGE, () -> x().edge(0, 0, 'a', 9, true));
        });
        sentence("if in xyz no forbidden word stands: one letter, at each place", () -> {
            forbid("b", 2);
            isJust(0, 4, 2, "0a0");
            forbid("c", 3);
            is(4.5, () -> x().meanEdges());
            is(false, () -> x().edge(1, 6, 'a', 0, false));
            is(false, () -> x().edge(1, 2, 'a', 6, false));
            is(false, () -> x().edge(1, 0, 'c', 2, false));
        });
        sentence("if in xyz no forbidden word stands: two letters, at both places", () -> {
            forbid("ab", 2);
            isJust(0, 4, 2, "0a0", "2a0", "3a2", "3b3");
        });
        sentence("if in xyz no forbidden word stands: three letters", () -> {
            forbid("aba", 2);
            isJust(0, 4, 2, "0a0", "0b1", "1b3", "2a0", "2b1", "3a2", "3b3");
        });
        sentence("if in xyz no forbidden word stands: the first and the last one of many", () -> {
            forbid("aaa,bbb", 2);
            isJust(0, 4, 2, "0b1", "1a2", "1b3", "2a0", "2b1", "3a2");
            forbid("aaa,aab,aba,abb,baa,bab,bba,bbb", 2);
            is(0, () -> x().states(1));
            is(3.0, () -> x().meanEdges());
        });
        sentence("all letters forbidden: no state is left", () -> {
            given(() -> forbid("a,b", 2));
            is(0, () -> x().states(0));
            is(0, () -> x().words(0, 0));
            is(0L, () -> x().checksum());
        });
    }

    private static void gaps() {
        sentence("the lengths as bits, 1 to 255", () -> {
            given(Sentences::furnish);
            beyond(1, 255, RANGE, n -> x().gaps(n));
            is(3, () -> x().gaps(1));
            is(4, () -> x().gaps(255));
            is(1, () -> x().states(3));
            is(8, () -> x().states(4));
        });
        sentence("gaps: two letters", () -> {
            given(() -> x().gaps(3));
            refused(RANGE, () -> x().edge(0, 0, 'c', 0, true));
            is(true, () -> x().edge(0, 0, 'b', 0, true));
        });
        sentence("the lengths whose bits are told, 0 to 7: the least one", () -> {
            given(() -> x().gaps(1));
            isJust(0, 1, 2, "0b0");
            refused(RANGE, () -> x().edge(0, 1, 'a', 0, true));
            type("bb");
            is(true, () -> x().isWord(0));
            type("a");
            is(false, () -> x().isWord(0));
        });
        sentence("the lengths whose bits are told, 0 to 7: the greatest one", () -> {
            given(() -> x().gaps(128));
            isJust(0, 8, 2, "0a1", "1a2", "2a3", "3a4", "4a5", "5a6", "6a7", "7b0");
            refused(RANGE, () -> x().edge(0, 8, 'a', 0, true));
            type("baaaaaaab");
            is(true, () -> x().isWord(0));
            type("baaaaaab");
            is(false, () -> x().isWord(0));
            type("aaaaaaaa");
            is(false, () -> x().isWord(0));
            is(8, () -> x().period(0, 0));
        });
        sentence("with a to the next one, up to the greatest length, from that one none", () -> {
            x().gaps(5);
            isJust(0, 3, 2, "0a1", "0b0", "1a2", "2b0");
            x().gaps(255);
            isJust(1, 8, 2, "0a1", "1a2", "2a3", "3a4", "4a5", "5a6", "6a7", "0b0", "1b0", "2b0", "3b0", "4b0", "5b0",
                    "6b0", "7b0");
        });
        sentence("with b to the state 0, if its number is a length", () -> {
            x().gaps(6);
            isJust(0, 3, 2, "0a1", "1a2", "1b0", "2b0");
            type("bab");
            is(true, () -> x().isWord(0));
            type("baab");
            is(true, () -> x().isWord(0));
            type("bb");
            is(false, () -> x().isWord(0));
            type("aaa");
            is(false, () -> x().isWord(0));
        });
    }
}
