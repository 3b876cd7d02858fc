/** Promises 34 to 46: maps of the line, cellular maps, substitutions and figures. */
public final class MapBoundaryTests extends Sentences {
    public static void main(String[] args) {
        itineraries();
        greatest();
        forcing();
        rules();
        rings();
        ringPeriods();
        replacing();
        complexities();
        figures();
        askedAgain();
        end();
    }

    private static void compares(int due, String text) {
        type(text);
        is(due, () -> x().compare());
    }

    private static void itineraries() {
        sentence("two rows of 1 to 12 of L and R, with a comma between", () -> {
            compares(0, "L,L");
            compares(1, "R,L");
            compares(0, times("L", 12) + "," + times("L", 12));
            compares(1, times("L", 11) + "R," + times("L", 12));
            compares(-1, times("L", 12) + "," + times("L", 11) + "R");
            for (String bad : new String[] {"", "L", ",", "L,", ",R", times("L", 13) + ",R", "R," + times("L", 13),
                times("R", 13) + "," + times("R", 13), times("L", 12), times("R", 25)}) {
                given(() -> furnishWith(bad));
                refused(UNFIT, () -> x().compare());
            }
        });
        sentence("parted at its comma: just one", () -> {
            for (String bad : new String[] {"L,R,", ",L,R", "L,,R", "L,R,L", ",,", "LR"}) {
                given(() -> furnishWith(bad));
                refused(UNFIT, () -> x().compare());
            }
        });
        sentence("not two rows of L and R: other signs", () -> {
            for (String bad : new String[] {"a,L", "L,a", "La,R", "L,Rb", "aL,R", "L,cR", "a,b"}) {
                given(() -> furnishWith(bad));
                refused(UNFIT, () -> x().compare());
            }
        });
        sentence("if the number of R ahead of this place is even, otherwise the other one", () -> {
            compares(1, "R,L");
            compares(-1, "L,R");
            compares(1, "LR,LL");
            compares(-1, "RR,RL");
            compares(1, "RL,RR");
            compares(1, "RRR,RRL");
            compares(-1, "RRRR,RRRL");
            compares(1, "LLRLRLR,LLRLRLL");
            compares(-1, "LRR,LRL");
            // the 12th place, behind 11 R
            compares(-1, times("R", 12) + "," + times("R", 11) + "L");
            compares(1, times("R", 11) + "L," + times("R", 12));
        });
        sentence("if one of them ends ahead of such a place, neither is greater", () -> {
            compares(0, "R,RL");
            compares(0, "RL,R");
            compares(0, "RLLRL,RLLR");
            compares(0, "RR,R");
            compares(0, "R,RR");
            compares(0, "LR,L");
            compares(0, "L,LR");
            compares(0, "RLRR,RLR");
            compares(0, "RLR,RLRR");
            compares(0, "L," + times("L", 11) + "R");
            compares(1, "RL,RRL");
        });
    }

    private static void greatest() {
        sentence("a row of 1 to 12 of L and R", () -> {
            for (String text : new String[] {"L", "R", times("L", 12), "R" + times("L", 11), "RLL" + times("R", 9)}) {
                type(text);
                is(true, () -> x().isGreatest());
            }
            type(times("R", 11) + "L");
            is(false, () -> x().isGreatest());
            type(times("L", 11) + "R");
            is(false, () -> x().isGreatest());
            for (String bad : new String[] {"", times("L", 13), "R" + times("L", 12), times("R", 40), ",", "R,L",
                "R,", ",R", "a", "RLa", "bRL", "RcL"}) {
                given(() -> furnishWith(bad));
                refused(UNFIT, () -> x().isGreatest());
            }
        });
        sentence("if no row that it ends with, from some place on, is greater", () -> {
            for (String text : new String[] {"RL", "RLRR", "RLLR", "RR", "RLRL", "RLLRLR", "RLRRR"}) {
                type(text);
                is(true, () -> x().isGreatest());
            }
            for (String text : new String[] {"LR", "RRL", "RLRLL", "RLRRLLR", "RLRLRLRLRLLL"}) {
                type(text);
                is(false, () -> x().isGreatest());
            }
        });
    }

    private static void forcing() {
        sentence("the period and the other one, 1 to 9999", () -> {
            given(Sentences::furnish);
            beyond(1, 9999, RANGE, n -> x().forces(n, 1));
            beyond(1, 9999, RANGE, n -> x().forces(1, n));
            is(true, () -> x().forces(1, 1));
            is(true, () -> x().forces(9999, 1));
            is(false, () -> x().forces(1, 9999));
            is(true, () -> x().forces(9999, 9999));
            is(true, () -> x().forces(3, 9999));
        });
        sentence("it forces itself and all behind it", () -> {
            int[] row = {3, 5, 9997, 9999, 6, 10, 9998, 12, 9996, 24, 6144, 8192, 4096, 8, 4, 2, 1};
            for (int i = 0; i < row.length; i++) {
                for (int j = 0; j < row.length; j++) {
                    int one = row[i];
                    int other = row[j];
                    is(i <= j, () -> x().forces(one, other));
                }
            }
        });
        sentence("at last the powers of 2 downward to 1", () -> {
            is(true, () -> x().forces(8192, 4096));
            is(false, () -> x().forces(4096, 8192));
            is(true, () -> x().forces(2, 1));
            is(false, () -> x().forces(1, 2));
            is(true, () -> x().forces(6144, 8192));
            is(false, () -> x().forces(8192, 6144));
            is(false, () -> x().forces(8192, 3));
        });
    }

    private static void rules() {
        sentence("the rule, 0 to 255: onto", () -> {
            given(Sentences::furnish);
            beyond(0, 255, RANGE, n -> x().isOnto(n));
            is(false, () -> x().isOnto(0));
            is(false, () -> x().isOnto(255));
            is(true, () -> x().isOnto(15));
            is(true, () -> x().isOnto(240));
            is(false, () -> x().isOnto(254));
            is(false, () -> x().isOnto(1));
        });
        sentence("the rule, 0 to 255: the least word that has none", () -> {
            given(Sentences::furnish);
            beyond(0, 255, RANGE, n -> x().orphan(n));
            is(1, () -> x().orphan(0));
            is(1, () -> x().orphan(255));
            is(3, () -> x().orphan(1));
            is(3, () -> x().orphan(254));
            is(2, () -> x().orphan(2));
            is(9, () -> x().orphan(37));
            is(9, () -> x().orphan(218));
            is(8, () -> x().orphan(22));
        });
        sentence("Throws NoSuchElementException if it is onto", () -> {
            given(Sentences::furnish);
            int count = 0;
            for (int rule : new int[] {15, 30, 45, 51, 60, 75, 85, 86, 89, 90, 101, 102, 105, 106, 120, 135, 149, 150,
                153, 154, 165, 166, 169, 170, 180, 195, 204, 210, 225, 240}) {
                is(NONE, () -> x().orphan(rule));
                is(true, () -> x().isOnto(rule));
                count++;
            }
            refused(NONE, () -> x().orphan(204));
            for (int rule = 0; rule < 256; rule++) {
                count -= x().isOnto(rule) ? 1 : 0;
            }
            int rest = count;
            is(0, () -> rest);
        });
        sentence("becomes the bit at 4 times the left one, plus 2 times itself, plus the right one", () -> {
            // on one of six cells, that of a row which is no row turned round
            is(2, () -> x().ringPeriod(7, 6, 11));
            is(12, () -> x().ringPeriod(7, 6, 13));
            is(12, () -> x().ringPeriod(7, 6, 19));
            is(2, () -> x().ringPeriod(7, 6, 22));
            is(12, () -> x().ringPeriod(21, 6, 11));
            is(2, () -> x().ringPeriod(21, 6, 13));
        });
    }

    private static void rings() {
        sentence("how many cells the rings have, 1 to 10", () -> {
            given(Sentences::furnish);
            beyond(1, 10, RANGE, n -> x().isOneToOneOn(204, n));
            beyond(0, 255, RANGE, rule -> x().isOneToOneOn(rule, 1));
            is(true, () -> x().isOneToOneOn(204, 1));
            is(true, () -> x().isOneToOneOn(204, 10));
            is(false, () -> x().isOneToOneOn(0, 1));
            is(false, () -> x().isOneToOneOn(255, 10));
        });
        sentence("the cell ahead of the first one and behind the last one, also if these are the cell itself", () -> {
            // a ring of one cell: 0 becomes the lowest bit, 1 becomes the highest one
            is(true, () -> x().isOneToOneOn(1, 1));
            is(true, () -> x().isOneToOneOn(128, 1));
            is(false, () -> x().isOneToOneOn(129, 1));
            is(false, () -> x().isOneToOneOn(126, 1));
            is(2, () -> x().ringPeriod(1, 1, 0));
            is(2, () -> x().ringPeriod(127, 1, 1));
            is(1, () -> x().ringPeriod(128, 1, 1));
            is(1, () -> x().ringPeriod(254, 1, 0));
        });
        sentence("on a ring of two cells the left one and the right one are the same", () -> {
            is(2, () -> x().ringPeriod(32, 2, 1));
            is(1, () -> x().ringPeriod(16, 2, 1));
            is(1, () -> x().ringPeriod(2, 2, 1));
            is(true, () -> x().isOneToOneOn(160, 2));
            is(false, () -> x().isOneToOneOn(144, 2));
        });
        sentence("if unlike rings become unlike ones", () -> {
            for (int i = 1; i <= 10; i++) {
                int cells = i;
                is(cells % 3 != 0, () -> x().isOneToOneOn(150, cells));
                is(cells % 2 == 1, () -> x().isOneToOneOn(45, cells));
                is(true, () -> x().isOneToOneOn(15, cells));
                is(true, () -> x().isOneToOneOn(170, cells));
                is(false, () -> x().isOneToOneOn(90, cells));
            }
        });
    }

    private static void ringPeriods() {
        sentence("the ring, 0 to less than 2 to the power of the cells", () -> {
            given(Sentences::furnish);
            beyond(0, 1, RANGE, ring -> x().ringPeriod(204, 1, ring));
            beyond(0, 3, RANGE, ring -> x().ringPeriod(204, 2, ring));
            beyond(0, 511, RANGE, ring -> x().ringPeriod(204, 9, ring));
            beyond(0, 1023, RANGE, ring -> x().ringPeriod(204, 10, ring));
            is(1, () -> x().ringPeriod(170, 1, 1));
            is(2, () -> x().ringPeriod(170, 2, 2));
            is(1, () -> x().ringPeriod(170, 9, 511));
            is(9, () -> x().ringPeriod(170, 9, 256));
            is(1, () -> x().ringPeriod(170, 10, 0));
            is(1, () -> x().ringPeriod(170, 10, 1023));
            is(10, () -> x().ringPeriod(170, 10, 512));
        });
        sentence("ringPeriod: the rule, 0 to 255, and the cells, 1 to 10", () -> {
            given(Sentences::furnish);
            beyond(0, 255, RANGE, rule -> x().ringPeriod(rule, 2, 1));
            beyond(1, 10, RANGE, n -> x().ringPeriod(204, n, 0));
            is(1, () -> x().ringPeriod(0, 2, 1));
            is(1, () -> x().ringPeriod(255, 2, 1));
            is(1, () -> x().ringPeriod(204, 1, 0));
            is(1, () -> x().ringPeriod(204, 10, 0));
        });
        sentence("less the number behind which it was there first", () -> {
            is(1, () -> x().ringPeriod(0, 3, 5));
            is(1, () -> x().ringPeriod(90, 8, 1));
            is(15, () -> x().ringPeriod(30, 10, 103));
            is(171, () -> x().ringPeriod(30, 9, 55));
            is(1, () -> x().ringPeriod(204, 10, 341));
        });
        sentence("the least number of steps: the longest period", () -> {
            is(504, () -> x().ringPeriod(45, 9, 1));
            is(504, () -> x().ringPeriod(45, 9, 2));
        });
    }

    private static void replacing() {
        sentence("Each of the letters a, b and c becomes itself at first", () -> {
            is(1, () -> x().complexity(1));
            is(0, () -> x().complexity(2));
            for (char letter : "abc".toCharArray()) {
                type("ab");
                is(1, () -> x().becomes(letter));
                type("ab");
                is(2, () -> x().becomes(letter));
            }
            given(() -> {
                type("abc");
                x().becomes('a');
            });
            is(3, () -> x().complexity(1));
            // a, abc, abcbc and so on, as b and c stay
            is(3, () -> x().complexity(2));
        });
        sentence("a row of 1 to 4 letters", () -> {
            given(() -> furnishWith("c"));
            is(2, () -> x().becomes('a'));
            is(0, () -> x().clear());
            type("abcc");
            is(1, () -> x().becomes('a'));
            type("b");
            is(4, () -> x().becomes('a'));
            for (String bad : new String[] {"", "abcca", "aaaaaaaa", times("b", 40)}) {
                given(() -> furnishWith(bad));
                refused(UNFIT, () -> x().becomes('a'));
                refused(UNFIT, () -> x().becomes('c'));
            }
        });
        sentence("becomes: or other signs", () -> {
            for (String bad : new String[] {"L", "R", ",", "aL", "Ra", "a,b", "abcR", ",a"}) {
                given(() -> furnishWith(bad));
                refused(UNFIT, () -> x().becomes('a'));
                refused(UNFIT, () -> x().becomes('b'));
            }
        });
        sentence("becomes throws IllegalArgumentException if there is no such letter", () -> {
            given(() -> furnishWith("ab"));
            for (char letter : otherSigns(3)) {
                refused(RANGE, () -> x().becomes(letter));
            }
            is(2, () -> x().becomes('a'));
            type("ab");
            is(2, () -> x().becomes('b'));
            type("ab");
            is(3, () -> x().becomes('c'));
        });
        sentence("sets what a letter becomes to the buffer, which is empty then", () -> {
            given(() -> furnishWith("abca"));
            is(3, () -> x().becomes('c'));
            is(NONE, () -> x().signAt(0));
            is(1, () -> x().type('a'));
        });
    }

    private static void complexities() {
        sentence("complexity: the length, 1 to 8", () -> {
            given(() -> {
                furnish();
                becomes("ab", "ba", "c");
            });
            beyond(1, 8, RANGE, n -> x().complexity(n));
            int[] due = {2, 4, 6, 10, 12, 16, 20, 22};
            for (int i = 1; i <= 8; i++) {
                int length = i;
                is(due[i - 1], () -> x().complexity(length));
            }
        });
        sentence("or, behind 12 times, those that there are", () -> {
            // 21 letters: 14 words of 8, where 11 times would make 9, and 13 times 21
            becomes("b", "c", "ab");
            is(14, () -> x().complexity(8));
            becomes("b", "c", "aab");
            is(41, () -> x().complexity(8));
            becomes("b", "a", "c");
            is(1, () -> x().complexity(1));
            is(0, () -> x().complexity(2));
            // behind 12 times it is a, behind 11 and 13 times b: then no c is there
            becomes("b", "a", "cc");
            is(1, () -> x().complexity(1));
        });
        sentence("a row shorter than the length has no words of it", () -> {
            becomes("b", "ac", "c");
            // b with 6 letters c ahead or behind, by turns: 7 letters
            is(1, () -> x().complexity(7));
            is(0, () -> x().complexity(8));
            is(2, () -> x().complexity(1));
        });
        sentence("until there are 200 or more: just 200, and 199", () -> {
            becomes("b", "ca", "aab");
            is(34, () -> x().complexity(8));
            becomes("b", "aac", "ab");
            is(31, () -> x().complexity(8));
            becomes("b", "caa", "ab");
            is(39, () -> x().complexity(8));
        });
        sentence("and the first 200 stay", () -> {
            becomes("b", "acb", "cca");
            is(45, () -> x().complexity(8));
            becomes("b", "cca", "aaa");
            is(32, () -> x().complexity(8));
            becomes("c", "aaa", "bbc");
            is(24, () -> x().complexity(8));
        });
        sentence("From a on", () -> {
            becomes("a", "bc", "cb");
            is(1, () -> x().complexity(1));
            is(0, () -> x().complexity(2));
            becomes("aa", "bc", "cb");
            is(1, () -> x().complexity(1));
            is(1, () -> x().complexity(8));
        });
        sentence("rows of 4 letters are replaced whole", () -> {
            becomes("abca", "bcab", "cabc");
            is(3, () -> x().complexity(1));
            becomes("aaab", "b", "b");
            is(2, () -> x().complexity(1));
            is(7, () -> x().complexity(3));
        });
    }

    private static void figures() {
        sentence("Returns 0 at first, then for each shift 31 times itself plus", () -> {
            is(0L, () -> x().checksum());
            graph(2, 2, "0a0 0a1");
            is(15L, () -> x().checksum());
            forbid("bb", 2);
            is(31L * 15 + 38, () -> x().checksum());
            x().code(2);
            matrix(1, 1, 9);
            type("ab");
            is(31L * 15 + 38, () -> x().checksum());
        });
        sentence("checksum: all 8 shifts", () -> {
            long due = 0;
            for (int i = 0; i < 8; i++) {
                forbid("", 3);
                due = 31 * due + 9 + 7 * 27;
            }
            long all = due;
            is(all, () -> x().checksum());
        });
        sentence("liveShare throws ArithmeticException if there are none", () -> {
            given(() -> {
                x().code(2);
                x().matrix(2, 2);
                type("ab");
            });
            refused(ZERO, () -> x().liveShare());
            x().shift(3, 2);
            is(0.0f, () -> x().liveShare());
            x().edge(0, 1, 'a', 1, true);
            is(1.0f / 3.0f, () -> x().liveShare());
            forbid("", 2);
            is(5.0f / 7.0f, () -> x().liveShare());
        });
        sentence("meanEdges throws ArithmeticException if there are none", () -> {
            given(() -> {
                x().code(2);
                x().matrix(2, 2);
                type("ab");
            });
            refused(ZERO, () -> x().meanEdges());
            x().shift(3, 2);
            is(0.0, () -> x().meanEdges());
            x().edge(0, 1, 'a', 2, true);
            is(1.0, () -> x().meanEdges());
            x().shift(1, 2);
            x().gaps(7);
            is(6.0 / 3.0, () -> x().meanEdges());
            forbid("bbb", 2);
            is(13.0 / 4.0, () -> x().meanEdges());
        });
        sentence("isSound, of a new object and of a full one", () -> {
            is(true, () -> x().isSound());
            furnishFull(times("aL,R", 10));
            is(true, () -> x().isSound());
        });
    }

    private static void askedAgain() {
        sentence("What is asked of a rule or a substitution changes nothing that is answered later", () -> {
            given(() -> {
                becomes("b", "cab", "a");
                type("RLR,RLL");
            });
            asIfAlone(() -> x().complexity(8), () -> x().complexity(1), () -> x().complexity(3), () -> x().compare(),
                    () -> x().isOneToOneOn(0, 10), () -> x().isOneToOneOn(204, 10), () -> x().isOneToOneOn(204, 1),
                    () -> x().ringPeriod(45, 9, 1), () -> x().ringPeriod(204, 10, 1), () -> x().ringPeriod(0, 1, 1),
                    () -> x().orphan(37), () -> x().orphan(0), () -> x().isOnto(30), () -> x().orphan(204),
                    () -> x().forces(3, 5), () -> x().forces(5, 3), () -> x().isGreatest(), () -> x().complexity(2));
            given(() -> becomes("ba", "cb", "c"));
            asIfAlone(() -> x().complexity(8), () -> x().complexity(4), () -> x().complexity(8));
        });
    }
}
