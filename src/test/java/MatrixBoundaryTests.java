/** Promises 26 to 33: matrices. */
public final class MatrixBoundaryTests extends Sentences {
    public static void main(String[] args) {
        matrices();
        numbers();
        splits();
        alike();
        groups();
        zetas();
        traces();
        askedAgain();
        end();
    }

    private static void matrices() {
        sentence("rows and columns, 1 to 5", () -> {
            given(Sentences::furnish);
            beyond(1, 5, RANGE, n -> x().matrix(n, 2));
            beyond(1, 5, RANGE, n -> x().matrix(2, n));
            is(3, () -> x().matrix(1, 5));
            isMatrix(3, 1, 0, 0, 0, 0, 0);
            is(4, () -> x().matrix(5, 1));
            isMatrix(4, 5, 0, 0, 0, 0, 0);
            is(5, () -> x().matrix(5, 5));
            isMatrix(5, 5, 0, 0, 0, 0, 0, 0, 0, 0, 0, 0, 0, 0, 0, 0, 0, 0, 0, 0, 0, 0, 0, 0, 0, 0, 0);
            is(6, () -> x().matrix(1, 1));
            isMatrix(6, 1, 0);
        });
        sentence("At most 8 matrices are numbered from 0", () -> {
            for (int i = 0; i < 8; i++) {
                int due = i;
                is(due, () -> x().matrix(1, 1));
            }
            given(() -> {
                furnish();
                for (int i = 0; i < 5; i++) {
                    matrix(1, 2, i, i + 1);
                }
            });
            refused(STATE, () -> x().matrix(1, 1));
            refused(STATE, () -> x().matrix(5, 5));
            refused(INDEX, () -> x().get(8, 0, 0));
            is(5, () -> x().get(7, 0, 1));
        });
        sentence("put throws IndexOutOfBoundsException if there is no such matrix, row or column", () -> {
            given(Sentences::furnish);
            beyond(0, 2, INDEX, i -> x().put(i, 0, 0, 5));
            beyond(0, 1, INDEX, i -> x().put(1, i, 0, 5));
            beyond(0, 2, INDEX, i -> x().put(1, 0, i, 5));
            beyond(0, 0, INDEX, i -> x().put(2, i, 0, 5));
            beyond(0, 0, INDEX, i -> x().put(2, 0, i, 5));
            is(6, () -> x().put(1, 1, 2, 5));
            is(9, () -> x().put(2, 0, 0, 5));
            is(1, () -> x().put(0, 0, 0, 5));
            isMatrix(1, 2, 1, 2, 3, 4, 5, 5);
        });
        sentence("get throws IndexOutOfBoundsException if there is no such matrix, row or column", () -> {
            given(Sentences::furnish);
            beyond(0, 2, INDEX, i -> x().get(i, 0, 0));
            beyond(0, 1, INDEX, i -> x().get(1, i, 0));
            beyond(0, 2, INDEX, i -> x().get(1, 0, i));
            isMatrix(0, 2, 1, 2, 3, 4);
            isMatrix(1, 2, 1, 2, 3, 4, 5, 6);
            isMatrix(2, 1, 9);
        });
    }

    private static void numbers() {
        sentence("put: the number, 0 to 9", () -> {
            given(Sentences::furnish);
            beyond(0, 9, RANGE, n -> x().put(1, 1, 2, n));
            is(6, () -> x().put(1, 1, 2, 0));
            is(0, () -> x().put(1, 1, 2, 9));
            is(9, () -> x().put(1, 1, 2, 9));
            is(9, () -> x().get(1, 1, 2));
        });
        sentence("Returns the number before: the last row and column of 5", () -> {
            x().matrix(5, 5);
            is(0, () -> x().put(0, 4, 4, 7));
            is(0, () -> x().put(0, 0, 4, 3));
            is(0, () -> x().put(0, 4, 0, 2));
            is(7, () -> x().put(0, 4, 4, 1));
            isMatrix(0, 5, 0, 0, 0, 0, 3, 0, 0, 0, 0, 0, 0, 0, 0, 0, 0, 0, 0, 0, 0, 0, 2, 0, 0, 0, 1);
        });
    }

    private static void splits() {
        sentence("how many it keeps there, 0 to what stands there", () -> {
            given(Sentences::furnish);
            beyond(0, 3, RANGE, n -> x().split(0, 1, 0, n));
            beyond(0, 9, RANGE, n -> x().split(2, 0, 0, n));
            is(3, () -> x().split(0, 1, 0, 0));
            isMatrix(0, 3, 1, 2, 2, 0, 4, 4, 3, 0, 0);
            is(2, () -> x().split(2, 0, 0, 9));
            isMatrix(2, 2, 9, 9, 0, 0);
        });
        sentence("how many it keeps: all, none, and of nothing", () -> {
            matrix(2, 2, 1, 2, 3, 4);
            is(3, () -> x().split(0, 1, 0, 3));
            isMatrix(0, 3, 1, 2, 2, 3, 4, 4, 0, 0, 0);
            matrix(1, 1, 9);
            is(2, () -> x().split(1, 0, 0, 0));
            isMatrix(1, 2, 0, 0, 9, 9);
            given(() -> matrix(1, 1, 0));
            refused(RANGE, () -> x().split(0, 0, 0, 1));
            is(2, () -> x().split(0, 0, 0, 0));
            isMatrix(0, 2, 0, 0, 0, 0);
        });
        sentence("a column like that of the row, in all rows as they are then", () -> {
            matrix(2, 2, 5, 2, 3, 4);
            is(3, () -> x().split(0, 0, 0, 2));
            isMatrix(0, 3, 2, 2, 2, 3, 4, 3, 3, 0, 3);
            is(4, () -> x().split(0, 2, 2, 1));
            isMatrix(0, 4, 2, 2, 2, 2, 3, 4, 3, 3, 3, 0, 1, 1, 0, 0, 2, 2);
        });
        sentence("Throws IllegalStateException if it has 5 rows", () -> {
            given(() -> {
                furnish();
                matrix(4, 4, 1, 0, 0, 2, 0, 1, 0, 0, 0, 0, 1, 0, 3, 0, 0, 1);
                matrix(5, 5, 4);
            });
            refused(STATE, () -> x().split(4, 0, 0, 2));
            refused(STATE, () -> x().split(4, 4, 4, 0));
            is(5, () -> x().split(3, 3, 0, 1));
            isMatrix(3, 5, 1, 0, 0, 2, 2, 0, 1, 0, 0, 0, 0, 0, 1, 0, 0, 1, 0, 0, 1, 1, 2, 0, 0, 0, 0);
            is(STATE, () -> x().split(3, 0, 0, 0));
            is(RANGE, () -> x().split(3, 0, 0, 2));
            isMatrix(3, 5, 1, 0, 0, 2, 2, 0, 1, 0, 0, 0, 0, 0, 1, 0, 0, 1, 0, 0, 1, 1, 2, 0, 0, 0, 0);
        });
        sentence("split throws UnsupportedOperationException if it is not square", () -> {
            given(() -> {
                furnish();
                x().matrix(4, 5);
                x().matrix(2, 1);
            });
            refused(UNFIT, () -> x().split(1, 0, 0, 1));
            refused(UNFIT, () -> x().split(1, 1, 2, 0));
            refused(UNFIT, () -> x().split(3, 0, 0, 0));
            refused(UNFIT, () -> x().split(4, 1, 0, 0));
        });
        sentence("split throws IndexOutOfBoundsException if there is no such matrix, row or column", () -> {
            given(Sentences::furnish);
            beyond(0, 2, INDEX, i -> x().split(i, 0, 0, 0));
            beyond(0, 1, INDEX, i -> x().split(0, i, 0, 0));
            beyond(0, 1, INDEX, i -> x().split(0, 0, i, 0));
            is(3, () -> x().split(0, 1, 1, 0));
            is(INDEX, () -> x().split(0, 3, 0, 0));
            is(4, () -> x().split(0, 2, 2, 0));
        });
    }

    private static void alike() {
        sentence("a lag, 1 to 4", () -> {
            given(() -> {
                matrix(1, 1, 2);
                matrix(2, 2, 1, 1, 1, 1);
                matrix(2, 1, 1, 1);
                for (int each = 1; each <= 8; each *= 2) {
                    matrix(1, 2, each, each);
                }
            });
            beyond(1, 4, RANGE, lag -> x().areLike(0, 1, 3, 2, lag));
            for (int i = 0; i < 16; i++) {
                int lag = i / 4 + 1;
                int third = i % 4 + 3;
                is(lag + 2 == third, () -> x().areLike(0, 1, third, 2, lag));
            }
        });
        sentence("areLike throws IndexOutOfBoundsException, for one of them", () -> {
            given(Sentences::furnish);
            beyond(0, 2, INDEX, i -> x().areLike(i, 0, 0, 0, 1));
            beyond(0, 2, INDEX, i -> x().areLike(0, i, 0, 0, 1));
            beyond(0, 2, INDEX, i -> x().areLike(0, 0, i, 0, 1));
            beyond(0, 2, INDEX, i -> x().areLike(0, 0, 0, i, 1));
            is(true, () -> x().areLike(0, 0, 0, 0, 2));
            is(false, () -> x().areLike(2, 2, 2, 2, 1));
        });
        sentence("if A or B is not square", () -> {
            given(Sentences::furnish);
            refused(UNFIT, () -> x().areLike(1, 0, 0, 0, 1));
            refused(UNFIT, () -> x().areLike(0, 1, 0, 0, 1));
            refused(UNFIT, () -> x().areLike(1, 1, 1, 1, 1));
        });
        sentence("or they do not fit together", () -> {
            given(() -> {
                matrix(1, 1, 2);
                matrix(2, 2, 1, 1, 1, 1);
                matrix(1, 2, 1, 1);
                matrix(2, 1, 1, 1);
                matrix(2, 2, 1, 1, 1, 1);
                matrix(1, 1, 1);
                matrix(1, 3, 1, 1, 1);
                matrix(3, 1, 1, 1, 1);
            });
            is(true, () -> x().areLike(0, 1, 2, 3, 1));
            is(true, () -> x().areLike(1, 0, 3, 2, 1));
            for (int third : new int[] {3, 4, 5, 6, 7}) {
                refused(UNFIT, () -> x().areLike(0, 1, third, 3, 1));
            }
            for (int fourth : new int[] {2, 4, 5, 6, 7}) {
                refused(UNFIT, () -> x().areLike(0, 1, 2, fourth, 1));
            }
            refused(UNFIT, () -> x().areLike(0, 0, 2, 3, 1));
            refused(UNFIT, () -> x().areLike(1, 1, 2, 3, 1));
        });
        sentence("AR is RB, SA is BS, RS is A to the power of the lag, and SR is B to this power: each alone fails", () -> {
            int nilpotent = matrix(2, 2, 0, 1, 0, 0);
            int zero = matrix(2, 2);
            int last = matrix(2, 2, 0, 0, 0, 1);
            int first = matrix(2, 2, 1, 0, 0, 0);
            is(true, () -> x().areLike(nilpotent, zero, zero, zero, 2));
            is(false, () -> x().areLike(nilpotent, zero, last, zero, 2));
            is(false, () -> x().areLike(nilpotent, zero, zero, first, 2));
            is(false, () -> x().areLike(first, zero, zero, zero, 2));
            is(false, () -> x().areLike(zero, first, zero, zero, 2));
            is(false, () -> x().areLike(nilpotent, zero, zero, zero, 1));
        });
        sentence("AR is RB, also in the last row, if R has more rows than columns", () -> {
            int from = matrix(2, 2, 0, 0, 1, 0);
            int zero = matrix(1, 1);
            int there = matrix(2, 1, 1, 0);
            int back = matrix(1, 2);
            is(false, () -> x().areLike(from, zero, there, back, 2));
            is(1, () -> x().put(there, 0, 0, 0));
            is(true, () -> x().areLike(from, zero, there, back, 2));
            is(0, () -> x().put(there, 1, 0, 9));
            is(true, () -> x().areLike(from, zero, there, back, 2));
        });
        sentence("SA is BS, also in the last column, if S has more columns than rows", () -> {
            int from = matrix(2, 2, 0, 1, 0, 0);
            int zero = matrix(1, 1);
            int there = matrix(2, 1);
            int back = matrix(1, 2, 1, 0);
            is(false, () -> x().areLike(from, zero, there, back, 2));
            is(1, () -> x().put(back, 0, 0, 0));
            is(true, () -> x().areLike(from, zero, there, back, 2));
            is(0, () -> x().put(back, 0, 1, 9));
            is(true, () -> x().areLike(from, zero, there, back, 2));
        });
        sentence("AR is RB and SA is BS, if R is a row and S is a column", () -> {
            int zero = matrix(1, 1);
            int from = matrix(2, 2, 0, 1, 0, 0);
            int there = matrix(1, 2, 1, 0);
            int back = matrix(2, 1);
            is(false, () -> x().areLike(zero, from, there, back, 2));
            is(1, () -> x().put(there, 0, 0, 0));
            is(true, () -> x().areLike(zero, from, there, back, 2));
            int turned = matrix(2, 2, 0, 0, 1, 0);
            is(0, () -> x().put(back, 0, 0, 1));
            is(false, () -> x().areLike(zero, turned, there, back, 2));
            is(1, () -> x().put(back, 0, 0, 0));
            is(true, () -> x().areLike(zero, turned, there, back, 2));
        });
        sentence("areLike with the greatest numbers", () -> {
            int nines = matrix(5, 5, 9, 9, 9, 9, 9, 9, 9, 9, 9, 9, 9, 9, 9, 9, 9, 9, 9, 9, 9, 9, 9, 9, 9, 9, 9);
            is(true, () -> x().areLike(nines, nines, nines, nines, 2));
            is(false, () -> x().areLike(nines, nines, nines, nines, 4));
        });
    }

    private static void isGroup(int matrix, long... due) {
        for (int i = 0; i < due.length; i++) {
            int index = i;
            is(due[i], () -> x().group(matrix, index));
        }
        is(NONE, () -> x().group(matrix, due.length));
    }

    private static void groups() {
        sentence("group: the index, from 0; as many numbers as rows", () -> {
            given(() -> {
                furnish();
                matrix(5, 5, 9, 0, 0, 0, 0, 0, 9, 0, 0, 0, 0, 0, 9, 0, 0, 0, 0, 0, 9, 0, 0, 0, 0, 0, 9);
            });
            beyond(0, 1, NONE, i -> x().group(0, i));
            beyond(0, 0, NONE, i -> x().group(2, i));
            beyond(0, 4, NONE, i -> x().group(3, i));
            beyond(0, 3, INDEX, i -> x().group(i, 0));
            is(1L, () -> x().group(0, 0));
            is(6L, () -> x().group(0, 1));
            is(8L, () -> x().group(2, 0));
            is(8L, () -> x().group(3, 0));
            is(8L, () -> x().group(3, 4));
        });
        sentence("0 is divided by all", () -> {
            matrix(2, 2, 3, 2, 2, 3);
            is(2L, () -> x().group(0, 0));
            is(0L, () -> x().group(0, 1));
            matrix(3, 3, 1, 0, 0, 0, 1, 0, 0, 0, 1);
            is(0L, () -> x().group(1, 0));
            is(0L, () -> x().group(1, 2));
            matrix(3, 3, 1, 0, 0, 0, 4, 0, 0, 0, 1);
            is(3L, () -> x().group(2, 0));
            is(0L, () -> x().group(2, 1));
            is(0L, () -> x().group(2, 2));
            matrix(1, 1, 1);
            is(0L, () -> x().group(3, 0));
            matrix(1, 1, 0);
            is(1L, () -> x().group(4, 0));
        });
        sentence("each one dividing the next one", () -> {
            matrix(2, 2, 3, 0, 0, 4);
            is(1L, () -> x().group(0, 0));
            is(6L, () -> x().group(0, 1));
            matrix(3, 3, 7, 0, 0, 0, 5, 0, 0, 0, 9);
            is(2L, () -> x().group(1, 0));
            is(4L, () -> x().group(1, 1));
            is(24L, () -> x().group(1, 2));
        });
        sentence("by adding whole multiples of rows or columns to others", () -> {
            isGroup(matrix(2, 2, 1, 9, 0, 7), 3, 0);
            isGroup(matrix(2, 2, 9, 2, 4, 5), 2, 12);
            isGroup(matrix(3, 3, 9, 9, 9, 4, 3, 4, 0, 4, 7), 1, 2, 52);
            isGroup(matrix(4, 4, 0, 4, 3, 0, 5, 5, 9, 6, 8, 4, 0, 2, 6, 4, 6, 1), 1, 1, 2, 756);
            isGroup(matrix(5, 5, 7, 3, 6, 0, 0, 0, 7, 9, 0, 0, 8, 7, 0, 0, 5, 4, 4, 7, 7, 4, 4, 2, 4, 9, 1),
                    1, 1, 1, 9, 1944);
            isGroup(matrix(5, 5, 2, 4, 2, 1, 9, 1, 2, 1, 0, 1, 8, 6, 7, 8, 9, 7, 4, 2, 0, 1, 4, 6, 2, 0, 0),
                    1, 1, 1, 4, 292);
        });
        sentence("changing rows, or columns, with each other, and turning signs", () -> {
            isGroup(matrix(2, 2, 1, 2, 3, 1), 1, 6);
            isGroup(matrix(2, 2, 1, 3, 9, 1), 3, 9);
            isGroup(matrix(3, 3, 1, 6, 0, 0, 1, 2, 3, 0, 1), 1, 6, 6);
            isGroup(matrix(3, 3, 1, 0, 7, 5, 1, 0, 0, 0, 1), 1, 35, 0);
        });
        sentence("group throws UnsupportedOperationException if it is not square", () -> {
            given(Sentences::furnish);
            refused(UNFIT, () -> x().group(1, 0));
            refused(UNFIT, () -> x().group(1, 2));
        });
    }

    private static void isZeta(int matrix, long... due) {
        for (int i = 0; i < due.length; i++) {
            int power = i;
            is(due[i], () -> x().zeta(matrix, power));
        }
        is(NONE, () -> x().zeta(matrix, due.length));
    }

    private static void zetas() {
        sentence("if the power is greater than the number of rows, or less than 0", () -> {
            given(() -> {
                furnish();
                matrix(5, 5, 9, 0, 0, 0, 0, 0, 9, 0, 0, 0, 0, 0, 9, 0, 0, 0, 0, 0, 9, 0, 0, 0, 0, 0, 9);
            });
            beyond(0, 2, NONE, i -> x().zeta(0, i));
            beyond(0, 1, NONE, i -> x().zeta(2, i));
            beyond(0, 5, NONE, i -> x().zeta(3, i));
            beyond(0, 3, INDEX, i -> x().zeta(i, 0));
            long[] due = {1, -5, -2};
            for (int i = 0; i < due.length; i++) {
                int power = i;
                is(due[i], () -> x().zeta(0, power));
            }
            is(1L, () -> x().zeta(2, 0));
            is(-9L, () -> x().zeta(2, 1));
            is(-59049L, () -> x().zeta(3, 5));
            is(1L, () -> x().zeta(3, 0));
        });
        sentence("the determinant of 1 less t times a matrix: each of its coefficients", () -> {
            isZeta(matrix(1, 1, 0), 1, 0);
            isZeta(matrix(2, 2, 7, 8, 8, 7), 1, -14, -15);
            isZeta(matrix(3, 3, 9, 9, 9, 4, 3, 4, 0, 4, 7), 1, -19, 59, 63);
            isZeta(matrix(4, 4, 0, 4, 3, 0, 5, 5, 9, 6, 8, 4, 0, 2, 6, 4, 6, 1), 1, -6, -111, -484, -912);
            isZeta(matrix(5, 5, 7, 3, 6, 0, 0, 0, 7, 9, 0, 0, 8, 7, 0, 0, 5, 4, 4, 7, 7, 4, 4, 2, 4, 9, 1),
                    1, -22, 1, 1358, -1520, -17314);
        });
        sentence("zeta throws UnsupportedOperationException if it is not square", () -> {
            given(Sentences::furnish);
            refused(UNFIT, () -> x().zeta(1, 0));
            refused(UNFIT, () -> x().zeta(1, 2));
        });
    }

    private static void traces() {
        sentence("trace: the power, 1 to 8", () -> {
            given(() -> {
                furnish();
                matrix(5, 5, 9, 9, 9, 9, 9, 9, 9, 9, 9, 9, 9, 9, 9, 9, 9, 9, 9, 9, 9, 9, 9, 9, 9, 9, 9);
            });
            beyond(1, 8, RANGE, n -> x().trace(0, n));
            beyond(0, 3, INDEX, i -> x().trace(i, 1));
            long[] due = {5, 29, 155, 833, 4475, 24041, 129155, 693857};
            for (int i = 0; i < due.length; i++) {
                int times = i + 1;
                is(due[i], () -> x().trace(0, times));
            }
            is(9L, () -> x().trace(2, 1));
            is(43046721L, () -> x().trace(2, 8));
            is(45L, () -> x().trace(3, 1));
            is(16815125390625L, () -> x().trace(3, 8));
        });
        sentence("trace throws UnsupportedOperationException if it is not square", () -> {
            given(Sentences::furnish);
            refused(UNFIT, () -> x().trace(1, 1));
            refused(UNFIT, () -> x().trace(1, 8));
        });
    }

    private static void askedAgain() {
        sentence("What is asked of a matrix changes nothing that is answered later", () -> {
            given(() -> {
                furnish();
                matrix(5, 5, 9, 1, 2, 3, 4, 5, 6, 7, 8, 9, 1, 2, 3, 4, 5, 6, 7, 8, 9, 1, 2, 3, 4, 5, 6);
                matrix(5, 5, 2, 0, 0, 0, 0, 0, 3, 0, 0, 0, 0, 0, 4, 0, 0, 0, 0, 0, 5, 0, 0, 0, 0, 0, 6);
            });
            asIfAlone(() -> x().group(3, 4), () -> x().group(0, 1), () -> x().group(4, 4), () -> x().group(2, 0),
                    () -> x().zeta(3, 5), () -> x().zeta(0, 2), () -> x().zeta(4, 3), () -> x().zeta(2, 1),
                    () -> x().trace(3, 8), () -> x().trace(2, 1), () -> x().trace(0, 3), () -> x().series(0, 2),
                    () -> x().series(1, 24), () -> x().areLike(3, 3, 3, 3, 2), () -> x().areLike(0, 0, 0, 0, 2),
                    () -> x().areLike(3, 3, 3, 4, 4), () -> x().growth(0, 6, true), () -> x().get(3, 4, 4),
                    () -> x().get(1, 1, 2), () -> x().get(0, 0, 0), () -> x().group(1, 0), () -> x().zeta(0, 3));
        });
    }
}
