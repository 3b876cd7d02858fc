/** Promises 8 to 19: what is asked of shifts. */
public final class ShiftBoundaryTests extends Sentences {
    public static void main(String[] args) {
        stranded();
        strandedAside();
        words();
        isWord();
        points();
        parts();
        periods();
        irreducible();
        right();
        futures();
        same();
        samePairs();
        series();
        growth();
        widestGraphs();
        askedAgain();
        end();
    }

    private static void stranded() {
        sentence("states throws IndexOutOfBoundsException if there is no such shift", () -> {
            given(Sentences::furnish);
            beyond(0, 2, INDEX, i -> x().states(i));
            is(2, () -> x().states(0));
            is(3, () -> x().states(2));
        });
        sentence("A state is stranded, if no endless way comes to it", () -> {
            graph(12, 2, chain(0, 11) + " 11a11");
            is(1, () -> x().states(0));
            graph(3, 2, "0a1 0b2 1a2 1b1 2a1");
            is(2, () -> x().states(1));
        });
        sentence("or none goes on from it", () -> {
            graph(12, 2, "0a0 " + chain(0, 11));
            is(1, () -> x().states(0));
            graph(3, 2, "1a0 2b0 1a2 1b1 2a1");
            is(2, () -> x().states(1));
        });
        sentence("A state between two parts is not stranded", () -> {
            graph(12, 2, "0a0 11a11 " + chain(0, 11));
            is(12, () -> x().states(0));
            is(2, () -> x().parts(0));
            x().edge(0, 5, 'a', 6, false);
            is(2, () -> x().states(0));
        });
        sentence("All states are stranded, if no way is endless", () -> {
            graph(12, 2, chain(0, 11));
            is(0, () -> x().states(0));
            is(11.0, () -> x().meanEdges());
            x().edge(0, 11, 'b', 0, true);
            is(12, () -> x().states(0));
        });
    }

    /** From 0 and 1, without bb, edges go to 3, from which none goes on, and to them from 2, to which none comes. */
    private static void strand() {
        graph(4, 2, "0a0 0b1 1a0 0b3 1b3 2a0 2a1 2b1");
        forbid("bb", 2);
    }

    private static void strandedAside() {
        sentence("stranded ones count for nothing: words", () -> {
            strand();
            is(2, () -> x().states(0));
            is(1, () -> x().words(0, 0));
            is(3, () -> x().words(0, 2));
            type("bb");
            is(false, () -> x().isWord(0));
            type("bab");
            is(true, () -> x().isWord(0));
            is(4, () -> x().points(0, 3));
        });
        sentence("stranded ones count for nothing: parts", () -> {
            strand();
            is(1, () -> x().parts(0));
            is(true, () -> x().isIrreducible(0));
            is(true, () -> x().isRight(0));
            is(NONE, () -> x().period(0, 2));
            is(NONE, () -> x().period(0, 3));
        });
        sentence("stranded ones count for nothing: futures", () -> {
            strand();
            is(2, () -> x().futures(0));
            is(true, () -> x().areSame(0, 1));
            is(true, () -> x().areSame(1, 0));
        });
        sentence("stranded ones count for nothing: numbers", () -> {
            strand();
            is(1L, () -> x().series(0, 0));
            is(-1L, () -> x().series(0, 1));
            is(-1L, () -> x().series(0, 2));
            is(0L, () -> x().series(0, 3));
            is(1000L, () -> x().growth(0, 0, true));
            is(2000L, () -> x().growth(0, 0, false));
            is(1500L, () -> x().growth(0, 1, true));
            is(1667L, () -> x().growth(0, 1, false));
        });
        sentence("stranded ones count for nothing: codes", () -> {
            strand();
            code("aabb");
            is(true, () -> x().isOneToOne(0, 0, 5));
            is(2, () -> x().image(0, 0));
            is(2, () -> x().states(2));
            isJust(2, 2, 2, "0a0", "0a1", "1b0");
            is(RANGE, () -> x().edge(2, 2, 'a', 0, true));
        });
        sentence("but in what edges are told", () -> {
            strand();
            is(true, () -> x().edge(0, 0, 'b', 3, true));
            is(true, () -> x().edge(0, 2, 'a', 1, true));
            is(31L * (2 + 7 * 8) + 3 + 7 * 5, () -> x().checksum());
            is(6.5, () -> x().meanEdges());
            is(5.0f / 8.0f, () -> x().liveShare());
        });
    }

    private static void words() {
        sentence("words: the length, 0 to 10", () -> {
            given(Sentences::furnish);
            beyond(0, 10, RANGE, n -> x().words(0, n));
            beyond(0, 2, INDEX, i -> x().words(i, 0));
            is(1, () -> x().words(0, 0));
            is(2, () -> x().words(0, 1));
            is(144, () -> x().words(0, 10));
            is(144, () -> x().words(2, 10));
        });
        sentence("words: all of 3 letters, and all of 10", () -> {
            forbid("", 3);
            is(1, () -> x().words(0, 0));
            is(3, () -> x().words(0, 1));
            is(59049, () -> x().words(0, 10));
        });
        sentence("0 if all states are stranded", () -> {
            given(() -> graph(2, 2, "0a1"));
            is(0, () -> x().words(0, 0));
            is(0, () -> x().words(0, 1));
            is(0, () -> x().words(0, 10));
            refused(RANGE, () -> x().words(0, 11));
        });
        sentence("The empty word is a word, if some state is not stranded", () -> {
            graph(2, 2, "0a1 1b1");
            graph(2, 2, "0a1");
            type("");
            is(1, () -> x().words(0, 0));
            is(true, () -> x().isWord(0));
            is(0, () -> x().words(1, 0));
            is(false, () -> x().isWord(1));
        });
        sentence("A word is read from a set of states by going along all edges with its letters", () -> {
            graph(3, 2, "0a1 0a2 1a0 2b0");
            is(2, () -> x().words(0, 1));
            is(3, () -> x().words(0, 2));
            type("aab");
            is(true, () -> x().isWord(0));
            type("aaaba");
            is(true, () -> x().isWord(0));
            type("bb");
            is(false, () -> x().isWord(0));
        });
        sentence("unlike words are counted, not ways", () -> {
            graph(2, 2, "0a0 0a1 1a0 1a1");
            is(1, () -> x().words(0, 1));
            is(1, () -> x().words(0, 10));
        });
        sentence("words that lead to many unlike sets: each set has words of its own behind it", () -> {
            round(2, 192, 64, 0, 16, 0, 64, 128, 32);
            round(3, 0, 128, 16, 64, 0, 0, 0, 32, 1024, 6, 32, 512);
            int[] few = {1, 2, 4, 8, 16, 32, 64, 128, 256, 511, 1019};
            int[] fewer = {1, 2, 4, 8, 16, 31, 59, 111, 204, 372, 671};
            for (int i = 0; i <= 10; i++) {
                int length = i;
                is(few[i], () -> x().words(0, length));
                is(fewer[i], () -> x().words(1, length));
            }
        });
    }

    private static void isWord() {
        sentence("the empty one is, if some state is not stranded", () -> {
            given(() -> furnishWith(""));
            is(true, () -> x().isWord(0));
            beyond(0, 2, INDEX, i -> x().isWord(i));
            x().shift(1, 2);
            is(false, () -> x().isWord(3));
            x().edge(3, 0, 'a', 0, true);
            is(true, () -> x().isWord(3));
        });
        sentence("if the buffer has other signs than letters that it has", () -> {
            for (String bad : new String[] {"c", "ac", "ca", "L", "aR", ",", "a,b", "aL"}) {
                given(() -> furnishWith(bad));
                refused(UNFIT, () -> x().isWord(0));
                refused(UNFIT, () -> x().isWord(2));
            }
            for (String bad : new String[] {"L", "aR", ",", "a,b", "c,"}) {
                given(() -> furnishWith(bad));
                refused(UNFIT, () -> x().isWord(1));
            }
            given(() -> furnishWith("bca"));
            is(true, () -> x().isWord(1));
        });
        sentence("other signs, also behind letters that are no word, and with all states stranded", () -> {
            given(() -> furnishWith("bbc"));
            refused(UNFIT, () -> x().isWord(0));
            given(() -> {
                x().shift(1, 2);
                type("ac");
            });
            refused(UNFIT, () -> x().isWord(0));
        });
        sentence("A full buffer is read up to its last sign", () -> {
            given(() -> furnishWith(times("ab", 20)));
            is(true, () -> x().isWord(0));
            type(times("ab", 19) + "bb");
            is(false, () -> x().isWord(0));
            type(times("ba", 19) + "bb");
            is(false, () -> x().isWord(0));
            type(times("ab", 19) + "aL");
            is(UNFIT, () -> x().isWord(0));
        });
    }

    private static void points() {
        sentence("points: the length, 1 to 7", () -> {
            given(Sentences::furnish);
            beyond(1, 7, RANGE, n -> x().points(0, n));
            beyond(0, 2, INDEX, i -> x().points(i, 1));
            is(1, () -> x().points(0, 1));
            is(29, () -> x().points(0, 7));
            forbid("", 3);
            is(3, () -> x().points(3, 1));
            is(2187, () -> x().points(3, 7));
        });
        sentence("such that the endless row of them, over and over, is a point", () -> {
            graph(3, 2, "0a1 1a2 2a0");
            is(1, () -> x().points(0, 1));
            is(1, () -> x().points(0, 7));
            graph(7, 2, chain(0, 6) + " 6b0");
            for (int i = 1; i < 7; i++) {
                int length = i;
                is(0, () -> x().points(1, length));
            }
            is(7, () -> x().points(1, 7));
        });
        sentence("a word that ends is no point", () -> {
            graph(12, 2, "0a0 11b11 0b1 1b2 2b3 3b4 4b5 5b6 6b7 7b8 8b9 9b10 10a11");
            is(2, () -> x().points(0, 1));
            is(2, () -> x().points(0, 2));
            is(0, () -> x().points(x().shift(1, 2), 3));
        });
    }

    private static void parts() {
        sentence("a state by itself is a part only if an edge leads back to it", () -> {
            given(() -> graph(1, 2, ""));
            is(0, () -> x().parts(0));
            refused(NONE, () -> x().period(0, 0));
            x().edge(0, 0, 'b', 0, true);
            is(1, () -> x().parts(0));
            is(1, () -> x().period(0, 0));
            graph(3, 2, "0a0 0a1 1a2 2a2");
            is(2, () -> x().parts(1));
            x().edge(1, 1, 'b', 1, true);
            is(3, () -> x().parts(1));
        });
        sentence("States are in one part, if a way leads from each to the other one", () -> {
            graph(12, 2, chain(0, 11));
            is(0, () -> x().parts(0));
            x().edge(0, 11, 'b', 0, true);
            is(1, () -> x().parts(0));
            graph(4, 2, "0a1 1a0 2a3 3a2");
            is(2, () -> x().parts(1));
            x().edge(1, 0, 'b', 2, true);
            is(2, () -> x().parts(1));
            x().edge(1, 3, 'b', 1, true);
            is(1, () -> x().parts(1));
        });
        sentence("parts: each of 12 states is one", () -> {
            x().shift(12, 3);
            for (int i = 0; i < 12; i++) {
                x().edge(0, i, 'c', i, true);
            }
            is(12, () -> x().parts(0));
            is(false, () -> x().isIrreducible(0));
        });
        sentence("parts throws IndexOutOfBoundsException if there is no such shift", () -> {
            given(Sentences::furnish);
            beyond(0, 2, INDEX, i -> x().parts(i));
            is(1, () -> x().parts(0));
            is(1, () -> x().parts(2));
        });
    }

    private static void periods() {
        sentence("period: the state, by the numbers told", () -> {
            given(Sentences::furnish);
            beyond(0, 2, RANGE, s -> x().period(0, s));
            beyond(0, 3, RANGE, s -> x().period(2, s));
            beyond(0, 2, INDEX, i -> x().period(i, 0));
            is(1, () -> x().period(0, 0));
            is(1, () -> x().period(2, 2));
        });
        sentence("Throws NoSuchElementException if it is in no part", () -> {
            given(Sentences::furnish);
            refused(NONE, () -> x().period(0, 2));
            refused(NONE, () -> x().period(2, 3));
            given(() -> graph(3, 2, "0a0 0a1 1a2 2a2"));
            refused(NONE, () -> x().period(0, 1));
            is(1, () -> x().period(0, 0));
            is(1, () -> x().period(0, 2));
        });
        sentence("the greatest common divisor of the lengths of its ways that come back", () -> {
            graph(12, 2, chain(0, 11) + " 11a0");
            is(12, () -> x().period(0, 0));
            is(12, () -> x().period(0, 11));
            x().edge(0, 7, 'b', 0, true);
            is(4, () -> x().period(0, 5));
            x().edge(0, 5, 'b', 0, true);
            is(2, () -> x().period(0, 9));
            x().edge(0, 2, 'b', 0, true);
            is(1, () -> x().period(0, 11));
            graph(2, 2, "0a1 0b1 1a0 1b0");
            is(2, () -> x().period(1, 0));
        });
        sentence("the ways of other parts do not count", () -> {
            graph(6, 2, "0a0 0b1 1a2 2a3 3a1 3b4 4a5 5a4");
            is(1, () -> x().period(0, 0));
            is(3, () -> x().period(0, 2));
            is(2, () -> x().period(0, 5));
        });
    }

    private static void irreducible() {
        sentence("irreducible, if all states that are not stranded are in one part", () -> {
            graph(3, 2, "0a1 1a0 1b2");
            is(true, () -> x().isIrreducible(0));
            x().edge(0, 2, 'a', 2, true);
            is(false, () -> x().isIrreducible(0));
            x().edge(0, 2, 'b', 0, true);
            is(true, () -> x().isIrreducible(0));
        });
        sentence("a state between two parts, and in none, is not aside", () -> {
            graph(3, 2, "0a0 0a1 1a2 2a2 2b0");
            is(true, () -> x().isIrreducible(0));
            x().edge(0, 2, 'b', 0, false);
            is(false, () -> x().isIrreducible(0));
        });
        sentence("Returns whether it is, and has a state that is not stranded", () -> {
            graph(1, 2, "");
            is(false, () -> x().isIrreducible(0));
            x().edge(0, 0, 'a', 0, true);
            is(true, () -> x().isIrreducible(0));
            graph(12, 2, chain(0, 11));
            is(false, () -> x().isIrreducible(1));
        });
        sentence("isIrreducible throws IndexOutOfBoundsException if there is no such shift", () -> {
            given(Sentences::furnish);
            beyond(0, 2, INDEX, i -> x().isIrreducible(i));
            is(true, () -> x().isIrreducible(0));
            is(true, () -> x().isIrreducible(2));
        });
    }

    private static void right() {
        sentence("no two edges with a letter go from one state", () -> {
            graph(2, 3, "0a0 0b1 0c1 1a0 1b0 1c0");
            is(true, () -> x().isRight(0));
            x().edge(0, 1, 'c', 1, true);
            is(false, () -> x().isRight(0));
            x().edge(0, 1, 'c', 0, false);
            is(true, () -> x().isRight(0));
        });
        sentence("isRight: stranded ones aside", () -> {
            graph(2, 2, "0a0 0a1");
            is(true, () -> x().isRight(0));
            x().edge(0, 1, 'b', 1, true);
            is(false, () -> x().isRight(0));
            graph(3, 2, "0a0 1b1 2a0 2a1");
            is(true, () -> x().isRight(1));
            x().edge(1, 2, 'b', 2, true);
            is(false, () -> x().isRight(1));
        });
        sentence("isRight, if all states are stranded", () -> {
            graph(3, 2, "0a1 0a2");
            is(true, () -> x().isRight(0));
        });
        sentence("isRight throws IndexOutOfBoundsException if there is no such shift", () -> {
            given(Sentences::furnish);
            beyond(0, 2, INDEX, i -> x().isRight(i));
            is(true, () -> x().isRight(0));
            is(true, () -> x().isRight(2));
        });
    }

    private static void futures() {
        sentence("if more than 60 sets that are not empty are reached: 60, all unlike, and the empty one", () -> {
            given(() -> round(2, 17, 3, 8, 0, 16, 4));
            is(60, () -> x().futures(0));
        });
        sentence("if more than 60 sets that are not empty are reached: 61, all unlike", () -> {
            given(() -> round(2, 4, 0, 0, 16, 0, 2, 32, 0));
            refused(UNFIT, () -> x().futures(0));
        });
        sentence("sets are counted, not futures: 60 and 61 with one future", () -> {
            given(() -> {
                round(2, 16, 4, 16, 6, 32, 1);
                round(2, 32, 33, 2, 2, 4, 16);
            });
            is(1, () -> x().futures(0));
            refused(UNFIT, () -> x().futures(1));
        });
        sentence("and are reached from the set of all such states by words, the empty one, too", () -> {
            graph(3, 2, "0a1 1a2 2a1 0b0");
            is(2, () -> x().futures(0));
            graph(1, 2, "0a0");
            is(1, () -> x().futures(1));
            graph(2, 2, "0a1 1b0");
            is(3, () -> x().futures(2));
        });
        sentence("unlike ones are counted", () -> {
            graph(2, 2, "0a1 1a0 0b0 1b0");
            is(1, () -> x().futures(0));
            graph(3, 2, "0a0 0b1 1a0 1b2 2a0 2b2");
            is(1, () -> x().futures(1));
            is(2, () -> x().futures(forbid("bb", 2)));
        });
        sentence("Returns the number of futures, that of no words aside", () -> {
            graph(2, 2, "0a1");
            is(0, () -> x().futures(0));
            graph(1, 3, "0a0");
            is(1, () -> x().futures(1));
        });
        sentence("futures throws IndexOutOfBoundsException if there is no such shift", () -> {
            given(Sentences::furnish);
            beyond(0, 2, INDEX, i -> x().futures(i));
            is(2, () -> x().futures(0));
            is(2, () -> x().futures(2));
        });
    }

    private static void same() {
        sentence("areSame throws IndexOutOfBoundsException if there is no such shift, for either", () -> {
            given(Sentences::furnish);
            beyond(0, 2, INDEX, i -> x().areSame(i, 0));
            beyond(0, 2, INDEX, i -> x().areSame(0, i));
            is(true, () -> x().areSame(0, 2));
            is(true, () -> x().areSame(2, 0));
        });
        sentence("the number of another one, or the same", () -> {
            given(Sentences::furnish);
            is(true, () -> x().areSame(0, 0));
            is(true, () -> x().areSame(1, 1));
            is(true, () -> x().areSame(2, 2));
        });
        sentence("if they have other letters", () -> {
            given(Sentences::furnish);
            refused(UNFIT, () -> x().areSame(0, 1));
            refused(UNFIT, () -> x().areSame(1, 2));
            given(() -> {
                x().shift(1, 2);
                x().shift(1, 3);
            });
            refused(UNFIT, () -> x().areSame(0, 1));
        });
        sentence("an unlike pair is one of which just one is empty: that of the whole sets", () -> {
            x().shift(3, 2);
            graph(2, 2, "0a1");
            graph(1, 2, "0a0");
            is(true, () -> x().areSame(0, 1));
            is(false, () -> x().areSame(0, 2));
            is(false, () -> x().areSame(2, 1));
        });
        sentence("an unlike pair is one of which just one is empty: those behind words", () -> {
            forbid("bb", 2);
            forbid("bbb", 2);
            forbid("aa", 2);
            is(false, () -> x().areSame(0, 1));
            is(false, () -> x().areSame(1, 0));
            is(false, () -> x().areSame(0, 2));
            graph(3, 2, "0a0 0b1 1a0 1b2 2a0");
            is(true, () -> x().areSame(1, 3));
        });
    }

    /** In all of these the states go round with a, and with b as the bits tell; words lead to so many pairs. */
    private static void samePairs() {
        sentence("the 400th pair is counted", () -> {
            round(2, 2, 8, 2, 2, 16, 32);
            round(2, 4, 32, 32, 32, 4, 8);
            is(true, () -> x().areSame(0, 1));
            is(true, () -> x().areSame(1, 0));
        });
        sentence("a 401st pair of sets would be met", () -> {
            given(() -> {
                round(2, 16, 2, 2, 4, 4);
                round(2, 8, 1, 2, 16, 8);
            });
            refused(UNFIT, () -> x().areSame(0, 1));
            refused(UNFIT, () -> x().areSame(1, 0));
            is(true, () -> x().areSame(0, 0));
        });
        sentence("a 401st pair of sets would be met, also of a shift and the same", () -> {
            given(() -> {
                round(2, 4, 16, 128, 4, 1, 384, 68, 1, 2);
                round(2, 32, 32, 256, 16, 16, 4, 384, 2, 24, 2);
            });
            is(true, () -> x().areSame(0, 0));
            refused(UNFIT, () -> x().areSame(1, 1));
        });
        sentence("a pair that is empty both is counted, too: as the 400th", () -> {
            round(3, 1, 4, 8, 4);
            round(3, 16, 17, 8, 20, 8, 1);
            is(true, () -> x().areSame(0, 1));
        });
        sentence("a pair that is empty both is counted, too: as one of 401", () -> {
            given(() -> {
                round(3, 2, 8, 2, 2, 16, 32);
                round(3, 4, 32, 32, 32, 4, 8);
            });
            refused(UNFIT, () -> x().areSame(0, 1));
        });
        sentence("a pair that is empty both is counted, too: as the 401st", () -> {
            given(() -> {
                round(2, 0, 128, 4, 8, 32, 2, 64, 32, 16);
                roundBack(16, 8, 4, 128, 8, 32, 64, 2, 0);
            });
            refused(UNFIT, () -> x().areSame(0, 1));
        });
        sentence("a pair that is empty both is counted, too: without it the 401st were an unlike one", () -> {
            given(() -> {
                roundThree(4, 8, 1, 4, 58, 22, 8, 18, 42, 16, 11, 0);
                roundThree(9, 1, 16, 32, 22, 2, 0, 9, 10, 16, 18, 20);
            });
            refused(UNFIT, () -> x().areSame(0, 1));
        });
        sentence("ahead of an unlike one: behind 399 pairs it is the 400th", () -> {
            round(2, 1, 1, 4, 8, 2, 32);
            round(2, 28, 0, 8, 1, 16);
            is(false, () -> x().areSame(0, 1));
        });
        sentence("ahead of an unlike one: behind 400 pairs no 401st is met ahead of it", () -> {
            round(2, 1, 0, 8, 8, 20);
            round(2, 32, 2, 1, 8, 16, 8);
            is(false, () -> x().areSame(0, 1));
        });
        sentence("ahead of an unlike one: behind 401 pairs", () -> {
            given(() -> {
                round(2, 64, 8, 1, 4, 0, 64, 18);
                round(2, 12, 16, 8, 2, 2);
            });
            refused(UNFIT, () -> x().areSame(0, 1));
        });
        sentence("by letters: an unlike pair that the last letters first would lead to too late", () -> {
            round(2, 0, 16, 1, 33, 8, 2);
            round(2, 32, 20, 6, 4, 1, 0);
            is(false, () -> x().areSame(0, 1));
        });
        sentence("by letters: an unlike pair that only the last letters first would lead to in time", () -> {
            given(() -> {
                round(2, 0, 1, 4, 64, 96, 2, 8);
                round(2, 4, 16, 32, 4, 4, 1);
            });
            refused(UNFIT, () -> x().areSame(0, 1));
        });
        sentence("one behind the other, by the order in which they were met first: not the newest first", () -> {
            given(() -> {
                round(2, 16, 4, 0, 36, 2, 8, 0);
                round(2, 8, 16, 0, 16, 1, 32);
                round(2, 1, 21, 4, 0, 32, 2);
                round(2, 32, 2, 1, 1, 4, 32);
            });
            is(false, () -> x().areSame(0, 1));
            refused(UNFIT, () -> x().areSame(2, 3));
        });
        sentence("a pair is counted as it is met, and is unlike then", () -> {
            round(2, 66, 1, 64, 0, 68, 1, 16);
            round(2, 10, 2, 8, 1);
            is(false, () -> x().areSame(0, 1));
        });
    }

    /** The shift 1 has 24 states and no edges: it is an image, whose edges are taken out again. */
    private static void widest() {
        x().shift(12, 2);
        for (int i = 0; i < 12; i++) {
            x().edge(0, i, 'a', (i + 1) % 12, true);
            x().edge(0, i, 'b', (i + 5) % 12, true);
        }
        code("abab");
        x().image(0, 0);
        for (int i = 0; i < 24; i++) {
            x().edge(1, i, 'a', 2 * ((i / 2 + 1) % 12), false);
            x().edge(1, i, 'b', 2 * ((i / 2 + 5) % 12) + 1, false);
        }
    }

    /** From each of the 24 states a leads to the next one, and from the last one b to the first one. */
    private static void widestRound() {
        widest();
        for (int i = 0; i < 23; i++) {
            x().edge(1, i, 'a', i + 1, true);
        }
        x().edge(1, 23, 'b', 0, true);
    }

    private static void widestGraphs() {
        sentence("told by a graph with 1 to 24 states: 24 that no way comes from or goes on from", () -> {
            given(ShiftBoundaryTests::widest);
            is(12.0, () -> x().meanEdges());
            is(0, () -> x().states(1));
            is(0, () -> x().parts(1));
            refused(NONE, () -> x().period(1, 23));
            refused(RANGE, () -> x().period(1, 24));
            is(0, () -> x().futures(1));
            is(0, () -> x().words(1, 0));
        });
        sentence("24 states, of which one by one is stranded", () -> {
            widest();
            for (int i = 0; i < 23; i++) {
                x().edge(1, i, 'a', i + 1, true);
            }
            x().edge(1, 0, 'b', 0, true);
            is(1, () -> x().states(1));
            is(false, () -> x().edge(1, 23, 'b', 23, true));
            is(24, () -> x().states(1));
            is(2, () -> x().parts(1));
            is(true, () -> x().edge(1, 0, 'b', 0, false));
            is(1, () -> x().states(1));
            is(1, () -> x().parts(1));
            is(1, () -> x().period(1, 23));
            is(NONE, () -> x().period(1, 22));
        });
        sentence("24 states in one part", () -> {
            given(ShiftBoundaryTests::widestRound);
            is(24, () -> x().states(1));
            is(1, () -> x().parts(1));
            is(24, () -> x().period(1, 0));
            is(24, () -> x().period(1, 23));
            refused(RANGE, () -> x().period(1, 24));
            is(true, () -> x().isIrreducible(1));
            is(true, () -> x().isRight(1));
            is(1.0f, () -> x().liveShare());
            is(31L * (12 + 7 * 24) + 24 + 7 * 24, () -> x().checksum());
            is(true, () -> x().edge(1, 23, 'b', 0, false));
            is(0, () -> x().states(1));
        });
        sentence("words and points of 24 states", () -> {
            given(ShiftBoundaryTests::widestRound);
            is(11, () -> x().words(1, 10));
            is(0, () -> x().points(1, 1));
            is(0, () -> x().points(1, 7));
            is(true, () -> x().isOneToOne(0, 1, 5));
            type(times("a", 23) + "b");
            is(true, () -> x().isWord(1));
            type(times("a", 24));
            is(false, () -> x().isWord(1));
            type(times("a", 23) + "b" + times("a", 16));
            is(true, () -> x().isWord(1));
        });
        sentence("futures and growth of 24 states", () -> {
            given(ShiftBoundaryTests::widestRound);
            is(47, () -> x().futures(1));
            is(true, () -> x().areSame(1, 1));
            is(false, () -> x().areSame(0, 1));
            is(1000L, () -> x().growth(1, 6, true));
            is(1000L, () -> x().growth(1, 6, false));
            refused(UNFIT, () -> x().series(1, 0));
            is(false, () -> x().edge(1, 23, 'a', 0, true));
            is(1, () -> x().points(1, 1));
            is(1000L, () -> x().growth(1, 0, true));
            is(2000L, () -> x().growth(1, 0, false));
            is(false, () -> x().edge(1, 23, 'a', 23, true));
            is(false, () -> x().isRight(1));
        });
    }

    /** Like round, but with a from each state to the one with the number below. */
    private static void roundBack(int... targets) {
        int number = x().shift(targets.length, 2);
        for (int from = 0; from < targets.length; from++) {
            x().edge(number, from, 'a', (from + targets.length - 1) % targets.length, true);
            drawBits(number, from, 'b', targets[from], targets.length);
        }
    }

    /** Like round, but with six states and three letters: targets of b, then those of c. */
    private static void roundThree(int... targets) {
        int number = x().shift(6, 3);
        for (int from = 0; from < 6; from++) {
            x().edge(number, from, 'a', (from + 1) % 6, true);
            drawBits(number, from, 'b', targets[from], 6);
            drawBits(number, from, 'c', targets[6 + from], 6);
        }
    }

    private static void series() {
        sentence("the power of t, 0 to 24", () -> {
            given(Sentences::furnish);
            beyond(0, 24, RANGE, p -> x().series(0, p));
            beyond(0, 2, INDEX, i -> x().series(i, 0));
            long[] due = {1, -1, -1, 0};
            for (int i = 0; i < due.length; i++) {
                int power = i;
                is(due[i], () -> x().series(0, power));
                is(due[i], () -> x().series(2, power));
            }
            for (int i = 4; i <= 24; i++) {
                int power = i;
                is(0L, () -> x().series(2, power));
            }
        });
        sentence("if more than 12 states are not stranded: 12 are", () -> {
            graph(12, 2, chain(0, 11) + " 11a0 11b0");
            is(1L, () -> x().series(0, 0));
            is(0L, () -> x().series(0, 11));
            is(-2L, () -> x().series(0, 12));
            is(0L, () -> x().series(0, 13));
            is(0L, () -> x().series(0, 24));
        });
        sentence("if more than 12 states are not stranded: 13 are", () -> {
            given(() -> {
                graph(12, 2, chain(0, 11) + " 11a0 11b0");
                code("aaaa");
                x().image(0, 0);
            });
            is(13, () -> x().states(1));
            refused(UNFIT, () -> x().series(1, 0));
            refused(UNFIT, () -> x().series(1, 24));
            refused(RANGE, () -> x().series(1, 25));
        });
        sentence("more than 12 states that are not stranded: of 13 told, one is", () -> {
            graph(12, 2, chain(0, 11) + " 11a0 11b0");
            code("aaaa");
            x().image(0, 0);
            // from the last state with b to the state 0: the pair of 0 and b is the second one
            is(true, () -> x().edge(1, 12, 'a', 1, false));
            is(12, () -> x().states(1));
            is(-1L, () -> x().series(1, 12));
            is(0L, () -> x().series(1, 13));
        });
        sentence("the series, if all states are stranded: the determinant of no rows is 1", () -> {
            graph(2, 2, "0a1");
            is(1L, () -> x().series(0, 0));
            is(0L, () -> x().series(0, 1));
            is(0L, () -> x().series(0, 24));
        });
        sentence("The matrix of a shift counts edges between states", () -> {
            graph(2, 3, "0a0 0b0 0c0 0a1 0c1 1b0");
            is(-3L, () -> x().series(0, 1));
            is(-2L, () -> x().series(0, 2));
        });
    }

    private static void growth() {
        sentence("how many steps, 0 to 6", () -> {
            given(Sentences::furnish);
            beyond(0, 6, RANGE, n -> x().growth(0, n, true));
            beyond(0, 6, RANGE, n -> x().growth(0, n, false));
            beyond(0, 2, INDEX, i -> x().growth(i, 0, true));
            long[] low = {1000, 1500, 1600, 1615, 1617, 1617, 1618};
            long[] high = {2000, 1667, 1625, 1620, 1619, 1619, 1619};
            for (int i = 0; i <= 6; i++) {
                int steps = i;
                is(low[i], () -> x().growth(2, steps, true));
                is(high[i], () -> x().growth(2, steps, false));
            }
        });
        sentence("the least one, rounded down, and the greatest one, rounded up: whole ones stay", () -> {
            forbid("", 3);
            is(3000L, () -> x().growth(0, 0, true));
            is(3000L, () -> x().growth(0, 0, false));
            is(3000L, () -> x().growth(0, 6, true));
            is(3000L, () -> x().growth(0, 6, false));
            graph(2, 2, "0a1 1a0 1b1");
            is(1000L, () -> x().growth(1, 0, true));
            is(2000L, () -> x().growth(1, 0, false));
        });
        sentence("if all states are stranded", () -> {
            given(() -> graph(2, 2, "0a1"));
            refused(UNFIT, () -> x().growth(0, 0, true));
            refused(UNFIT, () -> x().growth(0, 6, false));
            refused(RANGE, () -> x().growth(0, 7, false));
            x().edge(0, 1, 'b', 1, true);
            is(1000L, () -> x().growth(0, 0, true));
        });
        sentence("growth: once for each edge", () -> {
            graph(2, 3, "0a1 0b1 0c1 1a0");
            is(1000L, () -> x().growth(0, 0, true));
            is(3000L, () -> x().growth(0, 0, false));
            // behind one step: 0 counts 1 and 3 times 1, 1 counts 2
            is(1500L, () -> x().growth(0, 1, true));
            is(2000L, () -> x().growth(0, 1, false));
        });
    }

    private static void askedAgain() {
        sentence("What is asked of a shift changes nothing that is answered later", () -> {
            given(() -> {
                graph(12, 2, chain(0, 11) + " 11a0 11b0");
                round(2, 17, 3, 8, 0, 16, 4);
                forbid("bb", 2);
                graph(4, 2, "0a1 1a2 0b3");
                type("ab");
            });
            asIfAlone(() -> x().series(0, 12), () -> x().series(2, 12), () -> x().series(2, 2), () -> x().series(3, 1),
                    () -> x().futures(1), () -> x().futures(2), () -> x().futures(0), () -> x().futures(3),
                    () -> x().areSame(1, 2), () -> x().areSame(2, 2), () -> x().areSame(1, 1),
                    () -> x().words(1, 10), () -> x().words(2, 10), () -> x().words(0, 9), () -> x().words(3, 0),
                    () -> x().points(1, 7), () -> x().points(2, 6), () -> x().points(0, 1), () -> x().points(2, 1),
                    () -> x().growth(1, 6, true), () -> x().growth(2, 0, false), () -> x().growth(2, 6, true),
                    () -> x().period(0, 3), () -> x().period(2, 1), () -> x().parts(3), () -> x().parts(1),
                    () -> x().isWord(2), () -> x().isWord(3), () -> x().isRight(1), () -> x().isIrreducible(3),
                    () -> x().checksum(), () -> x().liveShare(), () -> x().meanEdges(), () -> x().isSound());
        });
    }
}
