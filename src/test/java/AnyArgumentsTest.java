import java.util.function.IntSupplier;

/**
 * Rule 7 of LANGUAGE.md: no call throws, for any arguments in any state. Every method is called
 * with every choice of arguments out of a list of edges, on lists that are empty, partly drawn, cut
 * again and full, and must answer as the model does.
 */
public final class AnyArgumentsTest extends Scenes {
    private static final int[] EDGES = {
        LEAST, LEAST + 1, LEAST + 8, -65536, -256, -21, -20, -16, -3, -2, -1, 0, 1, 2, 3, 4, 8, 9, 10,
        11, 15, 16, 17, 19, 20, 21, 136, 254, 255, 256, 257, 511, 65536, 1 << 28, 1431655766,
        GREATEST - 1, GREATEST};

    /** An object is made anew after so many calls, which leaves enough of the 512 to make it. */
    private static final int CALLS_OF_ONE = 400;

    /** After so many wrong answers the rest would only fill the screen. */
    private static final int ENOUGH = 100;

    private final int drawn;
    private final int removed;
    private final Model model = new Model();
    private ClipRaster raster;
    private int calls = 0;

    private AnyArgumentsTest(int drawn, int removed) {
        this.drawn = drawn;
        this.removed = removed;
        raster = made();
        for (int n = 0; n < drawn; n++) {
            for (int k = 0; k < 3; k++) {
                model.place(k, numberOf(n, k, 0), numberOf(n, k, 1));
                model.depth(k, numberOf(n, k, 2), numberOf(n, k, 3));
            }
            model.draw(0);
        }
        for (int n = 0; n < removed; n++) {
            model.remove(n);
        }
    }

    public static void main(String[] args) {
        int[][] states = {{0, 0}, {1, 0}, {1, 1}, {7, 3}, {10, 0}};
        for (int[] state : states) {
            AnyArgumentsTest test = new AnyArgumentsTest(state[0], state[1]);
            test.oneArgument();
            test.twoArguments();
            test.threeArguments();
            System.out.print(state[0] + " drawn, " + state[1] + " removed: ");
            test.check.finish();
        }
    }

    /** The numbers x, y, z, w of corner k of triangle n: wide ones, most of them seen in part. */
    private static int numberOf(int n, int k, int which) {
        int[] x = {-20, 20, n - 5};
        int[] y = {-20, 3 * n - 20, 20};
        int[] z = {n, 4 - n, 3};
        int[] w = {9, n + 4, 7 - n};
        return new int[][] {x, y, z, w}[which][k];
    }

    private ClipRaster made() {
        ClipRaster r = new ClipRaster();
        for (int n = 0; n < drawn; n++) {
            for (int k = 0; k < 3; k++) {
                r.place(k, numberOf(n, k, 0), numberOf(n, k, 1));
                r.depth(k, numberOf(n, k, 2), numberOf(n, k, 3));
            }
            r.draw(0);
        }
        for (int n = 0; n < removed; n++) {
            r.remove(n);
        }
        return r;
    }

    private ClipRaster next() {
        calls++;
        if (calls % CALLS_OF_ONE == 0) {
            raster = made();
        }
        return raster;
    }

    /** Names the call if it throws. */
    private void answers(String call, IntSupplier made, int want) {
        if (check.wrongSoFar() >= ENOUGH) {
            return;
        }
        int got;
        try {
            got = made.getAsInt();
        } catch (RuntimeException thrown) {
            check.fault(call + " threw " + thrown);
            return;
        }
        due(call, got, want);
    }

    private void oneArgument() {
        int left = drawn - removed;
        int sign = Integer.signum(model.volume());
        for (int a : EDGES) {
            int side = a == 1 ? 1 : -1;
            int drawing = left == 10 ? -2 : a != 0 && sign != side ? -3 : left;
            answers("draw(" + a + ")", () -> made().draw(a), a < 0 || a > 2 ? -1 : drawing);
            answers("remove(" + a + ")", () -> made().remove(a), a < 0 || a >= left ? -1 : left - 1);
            answers("owned(" + a + ")", () -> next().owned(a), model.owned(a));
            answers("covered(" + a + ")", () -> next().covered(a), model.covered(a));
        }
        answers("volume()", () -> next().volume(), model.volume());
        answers("drawn()", () -> next().drawn(), model.drawn());
        answers("lit()", () -> next().lit(), model.lit());
    }

    private void twoArguments() {
        for (int a : EDGES) {
            for (int b : EDGES) {
                String both = "(" + a + ", " + b + ")";
                answers("owner" + both, () -> next().owner(a, b), model.owner(a, b));
                answers("firstIn" + both, () -> next().firstIn(a, b), model.firstIn(a, b));
                answers("lastIn" + both, () -> next().lastIn(a, b), model.lastIn(a, b));
            }
        }
    }

    private void threeArguments() {
        for (int a : EDGES) {
            for (int b : EDGES) {
                for (int c : EDGES) {
                    String all = "(" + a + ", " + b + ", " + c + ")";
                    answers("covers" + all, () -> next().covers(a, b, c), model.covers(a, b, c));
                    answers("nearer" + all, () -> next().nearer(a, b, c), model.nearer(a, b, c));
                    answers("place" + all, () -> next().place(a, b, c), model.place(a, b, c));
                    answers("depth" + all, () -> next().depth(a, b, c), model.depth(a, b, c));
                }
            }
        }
    }
}
