/** If several exceptions apply, the one that is documented first is thrown. */
public final class OrderBoundaryTests extends Sentences {
    public static void main(String[] args) {
        order();
        end();
    }

    private static void order() {
        sentence("the one that is documented first is thrown: type, shift and gaps", () -> {
            given(() -> furnishFull(times("abLR", 10)));
            refused(RANGE, () -> x().type('d'));
            refused(RANGE, () -> x().shift(0, 2));
            refused(RANGE, () -> x().shift(13, 2));
            refused(RANGE, () -> x().shift(1, 4));
            refused(RANGE, () -> x().gaps(0));
            refused(RANGE, () -> x().gaps(256));
            refused(STATE, () -> x().type('a'));
            refused(STATE, () -> x().shift(1, 2));
            refused(STATE, () -> x().gaps(1));
        });
        sentence("the one that is documented first is thrown: code and matrix", () -> {
            given(() -> {
                furnish();
                for (int i = 0; i < 4; i++) {
                    x().code(2);
                }
                for (int i = 0; i < 5; i++) {
                    x().matrix(1, 1);
                }
            });
            refused(RANGE, () -> x().code(1));
            refused(RANGE, () -> x().code(4));
            refused(RANGE, () -> x().matrix(0, 1));
            refused(RANGE, () -> x().matrix(1, 6));
            refused(STATE, () -> x().code(2));
            refused(STATE, () -> x().matrix(1, 1));
        });
        sentence("the one that is documented first is thrown: forbid", () -> {
            given(() -> furnishFull("ab,,"));
            refused(RANGE, () -> x().forbid(1));
            refused(RANGE, () -> x().forbid(4));
            refused(UNFIT, () -> x().forbid(2));
            given(() -> furnishFull("ab"));
            refused(RANGE, () -> x().forbid(1));
            refused(STATE, () -> x().forbid(2));
            given(() -> furnishWith("ab,,"));
            refused(RANGE, () -> x().forbid(4));
        });
        sentence("the one that is documented first is thrown: what asks of shifts", () -> {
            given(() -> furnishWith("L"));
            refused(INDEX, () -> x().edge(3, 9, 'z', 9, true));
            refused(INDEX, () -> x().words(3, 11));
            refused(INDEX, () -> x().isWord(3));
            refused(INDEX, () -> x().points(-1, 0));
            refused(INDEX, () -> x().period(3, -1));
            refused(INDEX, () -> x().areSame(1, 3));
            refused(INDEX, () -> x().areSame(-1, 3));
            refused(INDEX, () -> x().series(3, 25));
            refused(INDEX, () -> x().growth(3, 7, true));
            refused(UNFIT, () -> x().isWord(0));
        });
        sentence("the one that is documented first is thrown: series and growth", () -> {
            given(() -> {
                graph(12, 2, chain(0, 11) + " 11a0 11b0");
                code("aaaa");
                x().image(0, 0);
                x().shift(1, 2);
            });
            refused(RANGE, () -> x().series(1, -1));
            refused(UNFIT, () -> x().series(1, 0));
            refused(RANGE, () -> x().growth(2, 7, true));
            refused(UNFIT, () -> x().growth(2, 6, true));
        });
        sentence("the one that is documented first is thrown: codes", () -> {
            given(() -> furnishFull("L"));
            refused(INDEX, () -> x().set(2, 'z', 'a', 'a'));
            refused(INDEX, () -> x().slide(2));
            refused(UNFIT, () -> x().slide(1));
            refused(INDEX, () -> x().image(2, 0));
            refused(INDEX, () -> x().image(1, 8));
            refused(UNFIT, () -> x().image(1, 0));
            refused(UNFIT, () -> x().image(0, 3));
            refused(STATE, () -> x().image(0, 0));
            refused(INDEX, () -> x().isOneToOne(2, 1, 0));
            refused(INDEX, () -> x().isOneToOne(0, 8, 6));
            refused(RANGE, () -> x().isOneToOne(0, 1, 6));
            refused(UNFIT, () -> x().isOneToOne(0, 1, 5));
        });
        sentence("the one that is documented first is thrown: matrices", () -> {
            given(() -> {
                furnish();
                matrix(5, 5, 1);
                matrix(5, 3, 1);
            });
            refused(INDEX, () -> x().put(1, 2, 0, 10));
            refused(INDEX, () -> x().split(1, 2, 0, 99));
            refused(RANGE, () -> x().split(1, 0, 0, 2));
            refused(UNFIT, () -> x().split(1, 0, 0, 1));
            refused(INDEX, () -> x().split(3, 5, 0, 99));
            refused(RANGE, () -> x().split(3, 0, 0, 2));
            refused(STATE, () -> x().split(3, 0, 0, 1));
            refused(UNFIT, () -> x().split(4, 0, 0, 1));
            refused(RANGE, () -> x().split(4, 0, 0, 2));
        });
        sentence("the one that is documented first is thrown: what asks of matrices", () -> {
            given(Sentences::furnish);
            refused(INDEX, () -> x().areLike(1, 1, 1, 3, 0));
            refused(RANGE, () -> x().areLike(1, 1, 1, 1, 0));
            refused(RANGE, () -> x().areLike(0, 0, 2, 2, 5));
            refused(UNFIT, () -> x().areLike(0, 0, 2, 2, 4));
            refused(INDEX, () -> x().group(3, 9));
            refused(UNFIT, () -> x().group(1, 9));
            refused(UNFIT, () -> x().group(1, -1));
            refused(INDEX, () -> x().zeta(3, 9));
            refused(UNFIT, () -> x().zeta(1, 9));
            refused(UNFIT, () -> x().zeta(1, -1));
            refused(INDEX, () -> x().trace(3, 9));
            refused(RANGE, () -> x().trace(1, 9));
            refused(UNFIT, () -> x().trace(1, 8));
        });
        sentence("the one that is documented first is thrown: rules whose bits up to 255 are those of one that is onto", () -> {
            given(Sentences::furnish);
            for (int rule : new int[] {15, 30, 204, 240}) {
                refused(NONE, () -> x().orphan(rule));
                refused(RANGE, () -> x().orphan(rule + 256));
                refused(RANGE, () -> x().orphan(rule - 256));
                refused(RANGE, () -> x().isOnto(rule + 256));
                refused(RANGE, () -> x().isOnto(rule - 256));
            }
        });
        sentence("the one that is documented first is thrown: substitutions", () -> {
            given(() -> furnishWith("abcab"));
            refused(RANGE, () -> x().becomes('d'));
            refused(UNFIT, () -> x().becomes('a'));
        });
    }
}
