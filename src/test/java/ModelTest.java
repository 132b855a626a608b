/** Long runs of calls, the same every time, on the class and on the model side by side. */
public final class ModelTest {
    private static final int RUNS = 160;
    private static final int CALLS = 512;
    private static final int[] STRANGE = {
        Integer.MIN_VALUE, -1000, -21, -3, -2, -1, 3, 10, 16, 17, 21, 255, 256, 1 << 16, 1 << 28,
        Integer.MAX_VALUE};

    private final Check check = new Check();
    private long state;
    private ClipRaster raster;
    private Model model;
    private int run;
    private int style;

    public static void main(String[] args) {
        ModelTest test = new ModelTest();
        for (int run = 0; run < RUNS && test.check.wrongSoFar() < 20; run++) {
            test.playRun(run);
        }
        test.check.finish();
    }

    private void playRun(int number) {
        run = number;
        style = number % 4;
        state = number + 1;
        raster = new ClipRaster();
        model = new Model();
        int calls = 0;
        while (calls < CALLS - 8) {
            if (pick(3) == 0) {
                calls += drawOne();
            } else {
                ask(pick(15));
                calls++;
            }
        }
    }

    /** A fixed sequence in which the tests of every run can be repeated. */
    private int pick(int bound) {
        state = state * 6364136223846793005L + 1442695040888963407L;
        return (int) ((state >>> 33) % bound);
    }

    /** Mostly a fitting argument, now and then one that isn't. */
    private int near(int bound) {
        return pick(16) == 0 ? STRANGE[pick(STRANGE.length)] : pick(bound);
    }

    private int numberArgument() {
        int drawn = model.drawn();
        return near(drawn + (pick(12) == 0 || drawn == 0 ? 1 : 0));
    }

    private int drawOne() {
        int flatDepth = pick(17);
        for (int k = 0; k < 3; k++) {
            switch (style) {
                case 0 -> corner(k, pick(41) - 20, pick(41) - 20, pick(41) - 20, pick(41) - 20);
                case 1 -> corner(k, 2 * pick(20) - 19, 2 * pick(20) - 19, pick(5) * 4, 16);
                case 2 -> corner(k, pick(5) - 2, pick(5) - 2, pick(3), pick(4) - 1);
                default -> corner(k, pick(2) * 40 - 20, pick(41) - 20, flatDepth, 16 + pick(5));
            }
        }
        draw(pick(4) == 0 ? near(3) : 0);
        return 7;
    }

    private void corner(int k, int x, int y, int z, int w) {
        place(k, x, y);
        depth(k, z, w);
    }

    private void ask(int kind) {
        switch (kind) {
            case 0 -> place(near(3), near(21), near(21));
            case 1 -> depth(near(3), near(21), near(21));
            case 2 -> due("volume()", raster.volume(), model.volume());
            case 3 -> draw(near(3));
            case 4 -> remove(numberArgument());
            case 5 -> due("drawn()", raster.drawn(), model.drawn());
            case 6 -> owner(near(16), near(16));
            case 7 -> owned(numberArgument());
            case 8 -> covered(numberArgument());
            case 9 -> covers(numberArgument(), near(16), near(16));
            case 10 -> due("lit()", raster.lit(), model.lit());
            case 11 -> firstIn(numberArgument(), near(16));
            case 12 -> lastIn(numberArgument(), near(16));
            default -> nearer(numberArgument(), numberArgument(), near(256));
        }
    }

    private void due(String call, int got, int want) {
        check.due("run " + run + ": " + call, got, want);
    }

    private void place(int k, int x, int y) {
        due("place(" + k + ", " + x + ", " + y + ")", raster.place(k, x, y), model.place(k, x, y));
    }

    private void depth(int k, int z, int w) {
        due("depth(" + k + ", " + z + ", " + w + ")", raster.depth(k, z, w), model.depth(k, z, w));
    }

    private void draw(int side) {
        due("draw(" + side + ")", raster.draw(side), model.draw(side));
    }

    private void remove(int number) {
        due("remove(" + number + ")", raster.remove(number), model.remove(number));
    }

    private void owner(int i, int j) {
        due("owner(" + i + ", " + j + ")", raster.owner(i, j), model.owner(i, j));
    }

    private void owned(int number) {
        due("owned(" + number + ")", raster.owned(number), model.owned(number));
    }

    private void covered(int number) {
        due("covered(" + number + ")", raster.covered(number), model.covered(number));
    }

    private void covers(int number, int i, int j) {
        due("covers(" + number + ", " + i + ", " + j + ")",
            raster.covers(number, i, j), model.covers(number, i, j));
    }

    private void firstIn(int number, int j) {
        due("firstIn(" + number + ", " + j + ")",
            raster.firstIn(number, j), model.firstIn(number, j));
    }

    private void lastIn(int number, int j) {
        due("lastIn(" + number + ", " + j + ")", raster.lastIn(number, j), model.lastIn(number, j));
    }

    private void nearer(int a, int b, int at) {
        due("nearer(" + a + ", " + b + ", " + at + ")",
            raster.nearer(a, b, at), model.nearer(a, b, at));
    }
}
