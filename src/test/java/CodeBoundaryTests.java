/** Promises 20 to 25: codes, what they slide along, and their images. */
public final class CodeBoundaryTests extends Sentences {
    public static void main(String[] args) {
        codes();
        slides();
        images();
        imageNumbers();
        oneToOne();
        askedAgain();
        end();
    }

    private static void codes() {
        sentence("code: letters, 2 or 3", () -> {
            given(Sentences::furnish);
            beyond(2, 3, RANGE, n -> x().code(n));
            is(2, () -> x().code(2));
            is(RANGE, () -> x().set(2, 'c', 'a', 'a'));
            is(3, () -> x().code(3));
            is('a', () -> x().set(3, 'c', 'c', 'c'));
        });
        sentence("At most 6 codes are numbered from 0", () -> {
            for (int i = 0; i < 6; i++) {
                int due = i;
                is(due, () -> x().code(2));
            }
            given(() -> {
                furnish();
                for (int i = 0; i < 4; i++) {
                    x().code(3);
                }
            });
            refused(STATE, () -> x().code(2));
            refused(STATE, () -> x().code(3));
            refused(INDEX, () -> x().set(6, 'a', 'a', 'a'));
            is('a', () -> x().set(5, 'c', 'c', 'b'));
        });
        sentence("a letter for each pair of letters, a for all at first", () -> {
            x().code(2);
            x().code(3);
            for (int i = 0; i < 9; i++) {
                char first = (char) ('a' + i / 3);
                char second = (char) ('a' + i % 3);
                boolean isNarrow = first < 'c' && second < 'c';
                is(isNarrow ? 'a' : RANGE, () -> x().set(0, first, second, 'b'));
                is('a', () -> x().set(1, first, second, second));
                is(second, () -> x().set(1, first, second, first));
            }
            is('c', () -> x().set(1, 'c', 'b', 'a'));
            is('b', () -> x().set(1, 'b', 'c', 'a'));
            is('b', () -> x().set(0, 'b', 'a', 'a'));
            is('a', () -> x().set(0, 'b', 'a', 'a'));
        });
        sentence("set throws IllegalArgumentException if there is no such letter in it", () -> {
            given(Sentences::furnish);
            for (char sign : otherSigns(2)) {
                refused(RANGE, () -> x().set(0, sign, 'a', 'b'));
                refused(RANGE, () -> x().set(0, 'a', sign, 'b'));
                refused(RANGE, () -> x().set(0, 'a', 'a', sign));
            }
            for (char sign : otherSigns(3)) {
                refused(RANGE, () -> x().set(1, sign, 'a', 'b'));
                refused(RANGE, () -> x().set(1, 'a', sign, 'b'));
                refused(RANGE, () -> x().set(1, 'a', 'a', sign));
            }
            is('b', () -> x().set(1, 'c', 'c', 'c'));
            is('c', () -> x().set(1, 'c', 'c', 'b'));
        });
        sentence("set throws IndexOutOfBoundsException if there is no such code", () -> {
            given(Sentences::furnish);
            beyond(0, 1, INDEX, i -> x().set(i, 'a', 'a', 'b'));
            is('a', () -> x().set(0, 'a', 'a', 'b'));
            is('a', () -> x().set(1, 'a', 'a', 'b'));
            is('b', () -> x().set(0, 'a', 'a', 'b'));
        });
    }

    private static void slides() {
        sentence("if the buffer has fewer than 2 signs", () -> {
            given(() -> furnishWith("ab"));
            is(1, () -> x().slide(0));
            is("b", () -> buffer(1));
            is(NONE, () -> x().signAt(1));
            given(() -> furnishWith("a"));
            refused(UNFIT, () -> x().slide(0));
            given(() -> furnishWith(""));
            refused(UNFIT, () -> x().slide(0));
        });
        sentence("A word of n letters becomes one of n less 1: a full buffer", () -> {
            given(() -> furnishWith(times("ab", 20)));
            is(39, () -> x().slide(0));
            is(times("b", 39), () -> buffer(39));
            is(NONE, () -> x().signAt(39));
            is(40, () -> x().type('a'));
            is(STATE, () -> x().type('a'));
        });
        sentence("or others than letters of the code", () -> {
            for (String bad : new String[] {"abc", "cab", "Lab", "abR", "a,b", ",,", "LR", "ac"}) {
                given(() -> furnishWith(bad));
                refused(UNFIT, () -> x().slide(0));
            }
            for (String bad : new String[] {"Lab", "abR", "a,b", ",,", "LR", "cL"}) {
                given(() -> furnishWith(bad));
                refused(UNFIT, () -> x().slide(1));
            }
            given(() -> furnishWith("cab"));
            is(2, () -> x().slide(1));
            is("cb", () -> buffer(2));
        });
        sentence("slide throws IndexOutOfBoundsException if there is no such code", () -> {
            given(() -> furnishWith("aab"));
            beyond(0, 1, INDEX, i -> x().slide(i));
            is(2, () -> x().slide(0));
            is("ab", () -> buffer(2));
        });
        sentence("A code sees only its window", () -> {
            code("abba");
            for (String text : new String[] {"aa", "ab", "ba", "bb"}) {
                type(text);
                x().slide(0);
                is(text.charAt(0) == text.charAt(1) ? "a" : "b", () -> buffer(1));
            }
            type("abbaab");
            is(5, () -> x().slide(0));
            is("babab", () -> buffer(5));
        });
    }

    /** A shift of 12 states that each letter, but for b, comes to each, and b to so many. */
    private static void wide(int byB) {
        x().shift(12, 3);
        for (int i = 0; i < 12; i++) {
            x().edge(0, i, 'a', (i + 1) % 12, true);
            x().edge(0, i, 'c', (i + 5) % 12, true);
            if (i < byB) {
                x().edge(0, 11, 'b', i, true);
            }
        }
        code("abcabcabc");
    }

    /**
     * A shift of 12 states, of which 10 are not stranded, with 20 pairs and so many more of b. To 10
     * all letters lead, but none goes on from it; from 11 b goes to 9, but none comes to it.
     */
    private static void aside(int byB) {
        x().shift(12, 3);
        for (int i = 0; i < 10; i++) {
            x().edge(0, i, 'a', (i + 1) % 10, true);
            x().edge(0, i, 'c', (i + 5) % 10, true);
        }
        for (int i = 0; i < byB; i++) {
            x().edge(0, 8, 'b', i, true);
        }
        for (char letter : "abc".toCharArray()) {
            x().edge(0, 0, letter, 10, true);
        }
        x().edge(0, 11, 'b', 9, true);
        code("abcabcabc");
    }

    private static void images() {
        sentence("more than 24 states: 24", () -> {
            given(() -> wide(0));
            is(1, () -> x().image(0, 0));
            is(24, () -> x().states(1));
            is(36.0, () -> x().meanEdges());
            is(false, () -> x().edge(1, 23, 'b', 23, true));
            refused(RANGE, () -> x().edge(0, 24, 'a', 0, true));
            is(RANGE, () -> x().edge(1, 24, 'a', 0, true));
            is(RANGE, () -> x().edge(1, 0, 'a', 24, true));
        });
        sentence("more than 24 states: the 25th", () -> {
            given(() -> wide(1));
            refused(UNFIT, () -> x().image(0, 0));
        });
        sentence("behind leaving out, more than 24 states: pairs to which no edge leads", () -> {
            given(() -> wide(2));
            refused(UNFIT, () -> x().image(0, 0));
            x().edge(0, 0, 'c', 5, false);
            is(UNFIT, () -> x().image(0, 0));
            x().edge(0, 1, 'c', 6, false);
            is(1, () -> x().image(0, 0));
            is(24, () -> x().states(1));
        });
        sentence("behind leaving out, more than 24 states: pairs from which no way goes on, or to which none comes", () -> {
            given(() -> aside(4));
            is(1, () -> x().image(0, 0));
            is(24, () -> x().states(1));
            is(RANGE, () -> x().edge(1, 24, 'a', 0, true));
            given(() -> aside(5));
            refused(UNFIT, () -> x().image(0, 0));
        });
        sentence("or it would have, behind leaving out, none", () -> {
            given(() -> {
                graph(2, 2, "0a1");
                code("abba");
                x().shift(1, 2);
            });
            refused(UNFIT, () -> x().image(0, 0));
            refused(UNFIT, () -> x().image(0, 1));
            x().edge(0, 1, 'b', 1, true);
            is(2, () -> x().image(0, 0));
            is(1, () -> x().states(2));
        });
        sentence("image: if they have other letters", () -> {
            given(Sentences::furnish);
            refused(UNFIT, () -> x().image(0, 1));
            refused(UNFIT, () -> x().image(1, 0));
            refused(UNFIT, () -> x().image(1, 2));
            is(3, () -> x().image(0, 0));
            is(4, () -> x().image(1, 1));
        });
        sentence("image throws IndexOutOfBoundsException if there is no such code or shift", () -> {
            given(Sentences::furnish);
            beyond(0, 1, INDEX, i -> x().image(i, 0));
            beyond(0, 2, INDEX, i -> x().image(0, i));
            is(3, () -> x().image(0, 2));
        });
        sentence("image leaves the buffer, the code and the shift as they are", () -> {
            given(() -> furnishWith("abL"));
            x().image(0, 0);
            is("abL", () -> buffer(3));
            is(2, () -> x().states(0));
            is(true, () -> x().edge(0, 2, 'a', 0, true));
            is('b', () -> x().set(0, 'a', 'b', 'b'));
        });
    }

    private static void imageNumbers() {
        sentence("as many letters times the state, plus the letter: 2 letters", () -> {
            graph(2, 2, "0a1 1b1 1b0");
            code("aabb");
            // 0b, 1a and 1b are left, which are 1, 2 and 3
            is(1, () -> x().image(0, 0));
            isJust(1, 3, 2, "0b1", "1a0", "1a2", "2b0", "2b2");
            is(RANGE, () -> x().edge(1, 3, 'a', 0, true));
        });
        sentence("as many letters times the state, plus the letter: 3 letters", () -> {
            graph(2, 3, "0c0 0a1 1b0");
            code("aaabbbccc");
            // 0b, 0c and 1a are left, which are 1, 2 and 3
            is(1, () -> x().image(0, 0));
            isJust(1, 3, 3, "0b1", "0b2", "1c1", "1c2", "2a0");
        });
        sentence("with what the code gives for xy, for each edge from s to t with y", () -> {
            graph(1, 3, "0a0 0b0 0c0");
            code("abcbcacab");
            is(1, () -> x().image(0, 0));
            isJust(1, 3, 3, "0a0", "0b1", "0c2", "1b0", "1c1", "1a2", "2c0", "2a1", "2b2");
        });
        sentence("those that are stranded are left out, and the others numbered anew in their order", () -> {
            graph(4, 2, "0a1 1a1 1b2 2b1 2a3");
            code("abab");
            // 1a, 1b and 2b are left, which are 2, 3 and 5
            is(1, () -> x().image(0, 0));
            is(3, () -> x().states(1));
            isJust(1, 3, 2, "0a0", "0b2", "1a0", "1b2", "2b1");
        });
    }

    private static void oneToOne() {
        sentence("isOneToOne: the length, 1 to 5", () -> {
            given(() -> {
                furnish();
                forbid("", 3);
                x().code(3);
                code("abcabcabc");
            });
            beyond(1, 5, RANGE, n -> x().isOneToOne(1, 3, n));
            beyond(0, 3, INDEX, i -> x().isOneToOne(i, 3, 1));
            beyond(0, 3, INDEX, i -> x().isOneToOne(1, i, 1));
            for (int i = 1; i <= 5; i++) {
                int length = i;
                is(true, () -> x().isOneToOne(3, 3, length));
                is(false, () -> x().isOneToOne(2, 3, length));
            }
        });
        sentence("points of a shift that are rows over and over of a length", () -> {
            graph(5, 2, "0a1 1a2 2a3 3a4 4b0");
            x().code(2);
            for (int i = 1; i < 5; i++) {
                int length = i;
                is(true, () -> x().isOneToOne(0, 0, length));
            }
            is(false, () -> x().isOneToOne(0, 0, 5));
            graph(1, 2, "0a0");
            is(true, () -> x().isOneToOne(0, 1, 5));
            x().shift(1, 2);
            is(true, () -> x().isOneToOne(0, 2, 5));
        });
        sentence("the last letter with the first one being the last pair", () -> {
            forbid("", 2);
            code("abab");
            for (int i = 1; i <= 5; i++) {
                int length = i;
                is(true, () -> x().isOneToOne(0, 0, length));
            }
            graph(2, 2, "0a1 1b0");
            code("aaab");
            is(false, () -> x().isOneToOne(1, 1, 2));
            code("aaba");
            is(true, () -> x().isOneToOne(2, 1, 2));
        });
        sentence("isOneToOne: the last row of each length counts, too", () -> {
            graph(2, 3, "0a0 1c1");
            x().code(3);
            for (int i = 1; i <= 5; i++) {
                int length = i;
                is(false, () -> x().isOneToOne(0, 0, length));
            }
            x().set(0, 'c', 'c', 'c');
            for (int i = 1; i <= 5; i++) {
                int length = i;
                is(true, () -> x().isOneToOne(0, 0, length));
            }
        });
        sentence("a row of one letter is paired with itself", () -> {
            forbid("", 2);
            code("abbb");
            is(true, () -> x().isOneToOne(0, 0, 1));
            x().set(0, 'b', 'b', 'a');
            is(false, () -> x().isOneToOne(0, 0, 1));
        });
        sentence("isOneToOne: if they have other letters", () -> {
            given(Sentences::furnish);
            refused(UNFIT, () -> x().isOneToOne(0, 1, 1));
            refused(UNFIT, () -> x().isOneToOne(1, 2, 5));
            is(true, () -> x().isOneToOne(0, 0, 1));
        });
    }

    private static void askedAgain() {
        sentence("What is asked of a code changes nothing that is answered later", () -> {
            given(() -> {
                furnish();
                forbid("", 3);
                code("aaaaaaaab");
                code("abcabcabc");
            });
            asIfAlone(() -> x().isOneToOne(2, 3, 5), () -> x().isOneToOne(3, 3, 5), () -> x().isOneToOne(2, 3, 1),
                    () -> x().points(3, 2), () -> x().isOneToOne(0, 0, 2), () -> x().points(0, 1),
                    () -> x().isOneToOne(3, 3, 1), () -> x().isOneToOne(1, 1, 4), () -> x().points(3, 7),
                    () -> x().signAt(0), () -> x().words(3, 4), () -> x().states(2));
        });
    }
}
