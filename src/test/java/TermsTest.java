import java.util.function.ToIntFunction;

/**
 * The sentences of "What it is", "Terms" and "Not promised" that name a bound, each with a test of
 * its own. No object is asked more than 512 times but where that is the point.
 */
public final class TermsTest extends Scenes {
    /** The six orders of three corners; every second one turns the sign of the volume. */
    private static final int[][] ORDERS = {
        {0, 1, 2}, {0, 2, 1}, {1, 2, 0}, {1, 0, 2}, {2, 0, 1}, {2, 1, 0}};

    /**
     * Corners x, y, w. Where the shares of the corners at pixel (8, 8) are 10100, 2712 and 3367, W
     * is 10100 * 17 + 2712 * 15 + 3367 * 12 = 252784 and X = Y = 15799, a sixteenth of it.
     */
    private static final int[][] UNEVEN = {{13, 2, 17}, {-19, 17, 15}, {-19, -15, 12}};

    public static void main(String[] args) {
        TermsTest test = new TermsTest();
        test.runAll(
            test::answersUpToCall512, test::endsAfterCall512Too, test::threeCorners,
            test::draftIsZeroAtFirst, test::drawnIsCopyAtTheEnd, test::numberedFromZero,
            test::holdsAtMostTen, test::volumeFormula, test::columnsAndRowsFrom0To15,
            test::centreOfEveryPixel, test::volumeNotZero, test::sharesNotBelowZero,
            test::closestToAnEdge, test::everyWBelowZero, test::someWBelowZero,
            test::edgesOnTheCentres, test::zNotBelowZero, test::zNotAboveW,
            test::zOfCornersWithoutW, test::depthsZeroAndOne, test::depthForEveryFactor,
            test::depthIsExact, test::depthsPastAnInt, test::ownerHasLeastDepth,
            test::ownerHasLeastNumber, test::pixelWithoutOwner);
    }

    /** Draws the triangle with these corners x, y, w in this order; z[n] belongs to corners[n]. */
    private static int drawInOrder(ClipRaster r, int[] order, int[][] corners, int... z) {
        for (int k = 0; k < 3; k++) {
            int[] from = corners[order[k]];
            corner(r, k, from[0], from[1], z[order[k]], from[2]);
        }
        return r.draw(0);
    }

    private static int drawOne(ClipRaster r, int[][] corners, int... z) {
        return drawInOrder(r, ORDERS[0], corners, z);
    }

    // What it is, Not promised

    /** After 511 calls triangle 0 is the corner patch at 1/4 and 1 the whole window at 1/2. */
    private static ClipRaster after511Calls(boolean changes) {
        ClipRaster r = new ClipRaster();
        for (int n = 0; n < 248 && changes; n++) {
            r.draw(0);
            r.remove(0);
        }
        cornerPatch(r, 4);
        r.draw(0);
        wholeWindow(r, 1, 2);
        r.draw(0);
        for (int n = 0; n < (changes ? 1 : 497); n++) {
            r.lit();
        }
        return r;
    }

    private void call512(String call, ToIntFunction<ClipRaster> last, int want) {
        due(call + " after 511 calls", last.applyAsInt(after511Calls(true)), want);
        due(call + " after 497 questions", last.applyAsInt(after511Calls(false)), want);
    }

    private void answersUpToCall512() {
        sentence("What it is", "An object is used for at most 512 calls after it has been made");
        call512("place(2, 20, -20)", r -> r.place(2, 20, -20), 0);
        call512("place(2, 21, -20)", r -> r.place(2, 21, -20), -2);
        call512("depth(2, 20, -20)", r -> r.depth(2, 20, -20), 0);
        call512("depth(2, 20, -21)", r -> r.depth(2, 20, -21), -2);
        call512("volume()", r -> r.volume(), 3200);
        call512("draw(1)", r -> r.draw(1), 2);
        call512("remove(1)", r -> r.remove(1), 1);
        call512("drawn()", r -> r.drawn(), 2);
        call512("owner(8, 8)", r -> r.owner(8, 8), 0);
        call512("owned(1)", r -> r.owned(1), 220);
        call512("covered(0)", r -> r.covered(0), 36);
        call512("covers(0, 8, 8)", r -> r.covers(0, 8, 8), 1);
        call512("lit()", r -> r.lit(), 256);
        call512("firstIn(0, 8)", r -> r.firstIn(0, 8), 8);
        call512("lastIn(0, 8)", r -> r.lastIn(0, 8), 15);
        call512("nearer(0, 1, 136)", r -> r.nearer(0, 1, 136), 1);
    }

    /** The answers are free then, but no call may throw or fail to end. */
    private void endsAfterCall512Too() {
        sentence("Not promised", "nothing about an object after its 512th call");
        ClipRaster r = after511Calls(true);
        int ended = 0;
        for (int n = 0; n < 300; n++) {
            int any = n % 7 == 0 ? LEAST : n % 7 == 1 ? GREATEST : n % 23 - 2;
            r.place(any, n % 41 - 20, n % 43 - 21);
            r.depth(n % 3, n % 37 - 18, n % 41 - 20);
            r.draw(n % 5 - 1);
            r.volume();
            r.drawn();
            r.owner(any, n % 16);
            r.owned(any);
            r.covered(any);
            r.covers(n % 10, any, n % 16);
            r.lit();
            r.firstIn(n % 10, any);
            r.lastIn(any, n % 16);
            r.nearer(n % 10, any, n % 256);
            r.remove(n % 4 == 0 ? any : n % 10);
            ended += 14;
        }
        due("calls that ended", ended, 4200);
    }

    // Terms: triangles and the list

    private void threeCorners() {
        sentence("Terms", "A triangle has three corners, numbered 0 .. 2.");
        ClipRaster r = new ClipRaster();
        int[][] unit = {{1, 0, 0}, {0, 1, 0}, {0, 0, 1}};
        for (int k = 0; k < 3; k++) {
            due("place of corner " + k, r.place(k, unit[k][0], unit[k][1]), 0);
            due("depth of corner " + k, r.depth(k, 0, unit[k][2]), 0);
        }
        due("place of corner -1", r.place(-1, 0, 0), -1);
        due("place of corner 3", r.place(3, 0, 0), -1);
        due("depth of corner -1", r.depth(-1, 0, 0), -1);
        due("depth of corner 3", r.depth(3, 0, 0), -1);
        due("volume() of three unit corners", r.volume(), 1);
    }

    private void draftIsZeroAtFirst() {
        sentence("Terms", "There is one draft triangle; all its numbers are 0 at first.");
        due("volume()", new ClipRaster().volume(), 0);
        for (int k = 0; k < 3; k++) {
            int next = (k + 1) % 3;
            int last = (k + 2) % 3;
            ClipRaster r = new ClipRaster();
            r.depth(k, 0, 1);
            corner(r, next, 15, 1, 0, 16);
            corner(r, last, 1, 15, 0, 16);
            due("volume() with corner " + k + " not placed", r.volume(), 15 * 15 - 1 * 1);
            r = new ClipRaster();
            r.place(k, 20, 20);
            corner(r, next, -15, 1, 8, 16);
            corner(r, last, 1, -15, 8, 16);
            due("volume() with w of corner " + k + " not set", r.volume(), 20 * 256 + 20 * 256);
            r.draw(0);
            wholeWindow(r, 1, 2);
            r.draw(0);
            // Z = 8 * (b + c) and W = 16 * (b + c) only if corner k has z = 0 and w = 0.
            due("depth at (8, 8) with z of corner " + k + " not set", r.nearer(0, 1, 136), 0);
            due("depth at (15, 15) with z of corner " + k + " not set", r.nearer(0, 1, 255), 0);
        }
    }

    private void drawnIsCopyAtTheEnd() {
        sentence("Terms",
            "Drawing puts a copy of the draft triangle at the end of the list of drawn triangles");
        ClipRaster r = new ClipRaster();
        onePixel(r, 3, 4, 8);
        r.draw(0);
        cornerPatch(r, 8);
        r.draw(0);
        due("the draft's volume after draw(0)", r.volume(), 16 * 14 * 14);
        for (int k = 0; k < 3; k++) {
            due("place(" + k + ", 0, 0)", r.place(k, 0, 0), 0);
            due("covered(1) after it", r.covered(1), 36);
            due("depth(" + k + ", 20, -20)", r.depth(k, 20, -20), 0);
            due("covered(1) after it", r.covered(1), 36);
        }
        wholeWindow(r, 1, 2);
        r.draw(0);
        due("covers(0, 3, 4)", r.covers(0, 3, 4), 1);
        due("covered(0), the first", r.covered(0), 1);
        due("covered(1), the second", r.covered(1), 36);
        due("covered(2), the end", r.covered(2), 256);
        due("nearer(1, 2, 136), z and w kept too", r.nearer(1, 2, 136), 0);
        due("draw(0) of the same draft", r.draw(0), 3);
        due("nearer(2, 3, 0)", r.nearer(2, 3, 0), 0);
    }

    private void numberedFromZero() {
        sentence("Terms", "numbered 0, 1, 2, ..");
        ClipRaster r = new ClipRaster();
        for (int n = 0; n < 10; n++) {
            onePixel(r, n, 15 - n, 0);
            due("draw(0)", r.draw(0), n);
            due("owner(" + n + ", " + (15 - n) + ")", r.owner(n, 15 - n), n);
            due("firstIn(" + n + ", " + (15 - n) + ")", r.firstIn(n, 15 - n), n);
            due("covered(" + (n + 1) + ")", r.covered(n + 1), -1);
        }
        due("covered(-1)", r.covered(-1), -1);
    }

    private void holdsAtMostTen() {
        sentence("Terms", "the list holds at most 10");
        ClipRaster r = diagonal(9);
        onePixel(r, 9, 9, 8);
        due("the tenth draw(0)", r.draw(0), 9);
        onePixel(r, 10, 10, 8);
        due("the eleventh draw(0)", r.draw(0), -2);
        due("the eleventh draw(1)", r.draw(1), -2);
        due("drawn()", r.drawn(), 10);
        due("lit()", r.lit(), 10);
        for (int n = 0; n < 10; n++) {
            due("owner(" + n + ", " + n + ")", r.owner(n, n), n);
        }
        due("owner(10, 10)", r.owner(10, 10), -2);
        due("covered(10)", r.covered(10), -1);
        due("remove(9)", r.remove(9), 9);
        due("draw(0) into the room", r.draw(0), 9);
        due("owner(10, 10) after it", r.owner(10, 10), 9);
        due("draw(0) again", r.draw(0), -2);
    }

    /** Each of the six products alone, 20 * 20 * 20, and the greatest and least sums of them. */
    private void volumeFormula() {
        sentence("Terms",
            "x0*(y1*w2 - y2*w1) - y0*(x1*w2 - x2*w1) + w0*(x1*y2 - x2*y1)");
        for (int n = 0; n < 6; n++) {
            ClipRaster r = new ClipRaster();
            for (int k = 0; k < 3; k++) {
                int which = ORDERS[n][k];
                corner(r, k, which == 0 ? 20 : 0, which == 1 ? 20 : 0, 20, which == 2 ? 20 : 0);
            }
            due("product " + n, r.volume(), n % 2 == 0 ? 8000 : -8000);
        }
        ClipRaster r = new ClipRaster();
        corner(r, 0, 20, 20, 0, 20);
        corner(r, 1, 20, -20, 0, 20);
        corner(r, 2, 20, 20, 0, -20);
        due("the greatest", r.volume(), 4 * 8000);
        corner(r, 0, -20, -20, 0, -20);
        due("the least", r.volume(), -4 * 8000);
        wholeWindow(r, 20, 20);
        due("z has no part in it", r.volume(), 1600 * 20);
        wholeWindow(r, -20, 20);
        due("z below 0 neither", r.volume(), 1600 * 20);
    }

    // Terms: pixels and cover

    private void columnsAndRowsFrom0To15() {
        sentence("Terms", "PIXELS have a column i and a row j, each 0 .. 15");
        ClipRaster r = new ClipRaster();
        wholeWindow(r, 0, 1);
        r.draw(0);
        for (int line = -1; line <= 16; line++) {
            boolean in = line >= 0 && line <= 15;
            due("owner(" + line + ", 0)", r.owner(line, 0), in ? 0 : -1);
            due("owner(15, " + line + ")", r.owner(15, line), in ? 0 : -1);
            due("covers(0, " + line + ", 15)", r.covers(0, line, 15), in ? 1 : -2);
            due("covers(0, 0, " + line + ")", r.covers(0, 0, line), in ? 1 : -2);
            due("firstIn(0, " + line + ")", r.firstIn(0, line), in ? 0 : -2);
            due("lastIn(0, " + line + ")", r.lastIn(0, line), in ? 15 : -2);
        }
        due("lit()", r.lit(), 16 * 16);
    }

    private void centreOfEveryPixel() {
        sentence("Terms", "the CENTRE of the pixel has px = 2*i - 15 and py = 2*j - 15.");
        for (int at = 0; at < 256; at++) {
            int i = at % 16;
            int j = at / 16;
            ClipRaster r = new ClipRaster();
            onePixel(r, i, j, 16);
            r.draw(0);
            String pixel = " about pixel (" + i + ", " + j + ")";
            due("covered(0)" + pixel, r.covered(0), 1);
            due("covers(0, i, j)" + pixel, r.covers(0, i, j), 1);
            due("owner(i, j)" + pixel, r.owner(i, j), 0);
            due("firstIn(0, j)" + pixel, r.firstIn(0, j), i);
            due("lastIn(0, j)" + pixel, r.lastIn(0, j), i);
            due("nearer(0, 0, 16 * j + i)" + pixel, r.nearer(0, 0, 16 * j + i), 0);
        }
    }

    private void volumeNotZero() {
        sentence("Terms", "A triangle COVERS a pixel if its volume is not 0 and");
        seenNowhere("along row 8", new int[][] {{-15, 1, 16}, {15, 1, 16}, {1, 1, 16}});
        seenNowhere("two like corners", new int[][] {{1, 1, 16}, {1, 1, 16}, {15, 15, 16}});
        seenNowhere("three like corners", new int[][] {{1, 1, 16}, {1, 1, 16}, {1, 1, 16}});
        seenNowhere("corners of one direction", new int[][] {{1, 1, 16}, {0, 0, 20}, {1, 1, 1}});
        seenNowhere("a corner of zeros", new int[][] {{0, 0, 0}, {-15, 1, 16}, {15, 1, 16}});
        seenNowhere("two corners of zeros", new int[][] {{0, 0, 0}, {1, 1, 16}, {0, 0, 0}});
        seenNowhere("all zeros", new int[][] {{0, 0, 0}, {0, 0, 0}, {0, 0, 0}});
        seenNowhere("every w = 0", new int[][] {{-20, -20, 0}, {20, -20, 0}, {0, 20, 0}});
        int[][] quarter = {{0, 0, 1}, {1, 0, 0}, {0, 1, 0}};
        for (int[] order : ORDERS) {
            ClipRaster r = new ClipRaster();
            drawInOrder(r, order, quarter, 0, 0, 0);
            due("covered(0) with volume " + r.volume(), r.covered(0), 64);
        }
    }

    /** At most of these shapes there are a, b, c that would do if the volume were no matter. */
    private void seenNowhere(String shape, int[][] corners) {
        ClipRaster r = new ClipRaster();
        drawOne(r, corners, 0, 0, 0);
        due("volume() " + shape, r.volume(), 0);
        due("covered(0) " + shape, r.covered(0), 0);
        due("covers(0, 8, 8) " + shape, r.covers(0, 8, 8), 0);
        due("owner(8, 8) " + shape, r.owner(8, 8), -2);
        due("owned(0) " + shape, r.owned(0), 0);
        due("lit() " + shape, r.lit(), 0);
        due("firstIn(0, 8) " + shape, r.firstIn(0, 8), -3);
        due("lastIn(0, 8) " + shape, r.lastIn(0, 8), -3);
        due("nearer(0, 0, 136) " + shape, r.nearer(0, 0, 136), -3);
    }

    /** The patch's edges run through centres, where one share is 0, and at its corners two are. */
    private void sharesNotBelowZero() {
        sentence("Terms", "there are real numbers a >= 0, b >= 0, c >= 0 such that");
        int[][] patch = {{1, 1, 16}, {15, 1, 16}, {1, 15, 16}};
        for (int[] order : ORDERS) {
            ClipRaster r = new ClipRaster();
            drawInOrder(r, order, patch, 8, 8, 8);
            String volume = " with volume " + r.volume();
            for (int at = 0; at < 256; at++) {
                int i = at % 16;
                int j = at / 16;
                int inside = i >= 8 && j >= 8 && i + j <= 23 ? 1 : 0;
                due("covers(0, " + i + ", " + j + ")" + volume, r.covers(0, i, j), inside);
            }
        }
    }

    /** One share at pixel (8, 8) is -1, 0 or 1 where W is 16 * |volume|, with either sign of it. */
    private void closestToAnEdge() {
        sentence("Terms", "a >= 0, b >= 0, c >= 0");
        int[][] below = {{19, 14, 20}, {18, -19, 20}, {-14, 19, 15}};
        int[][] belowToo = {{-17, 17, 17}, {-5, -16, 20}, {8, 20, 19}};
        int[][] on = {{-20, 18, 20}, {19, 19, 19}, {-14, -14, 19}};
        int[][] above = {{20, -20, 17}, {-9, -20, 20}, {10, 20, 11}};
        int[][] aboveToo = {{17, -17, 17}, {20, 19, 16}, {-18, -17, 15}};
        for (int[] order : ORDERS) {
            due("a share of -1, volume 18815", coversMiddle(order, below, 0, 0, 0), 0);
            due("a share of -1, volume 16779", coversMiddle(order, belowToo, 0, 0, 0), 0);
            due("a share of 0, volume 23826", coversMiddle(order, on, 0, 0, 0), 1);
            due("a share of 1, volume 18040", coversMiddle(order, above, 0, 0, 0), 1);
            due("a share of 1, volume 19499", coversMiddle(order, aboveToo, 0, 0, 0), 1);
        }
    }

    private static int coversMiddle(int[] order, int[][] corners, int... z) {
        ClipRaster r = new ClipRaster();
        drawInOrder(r, order, corners, z);
        return r.covers(0, 8, 8);
    }

    /** X / W, Y / W and Z / W would do, but W is below 0. */
    private void everyWBelowZero() {
        sentence("Terms", "all of these hold: W > 0;");
        int[][] turned = {{-1, -1, -16}, {-15, -1, -16}, {-1, -15, -16}};
        int[][] wide = {{-20, -20, -1}, {20, -20, -1}, {0, 20, -1}};
        for (int[] order : ORDERS) {
            for (int z : new int[] {-20, -16, -8, -1, 0, 1, 8, 16, 20}) {
                ClipRaster r = new ClipRaster();
                drawInOrder(r, order, turned, z, z, z);
                due("covered(0) of the turned patch, z = " + z, r.covered(0), 0);
                due("covers(0, 8, 8), z = " + z, r.covers(0, 8, 8), 0);
                due("covers(0, 7, 7), z = " + z, r.covers(0, 7, 7), 0);
                drawInOrder(r, order, wide, z, z, z);
                due("covered(1) of a wide one, z = " + z, r.covered(1), 0);
                due("lit(), z = " + z, r.lit(), 0);
            }
        }
    }

    private void someWBelowZero() {
        sentence("Terms", "W > 0");
        // px = 8 * b / (b + c - a) and py alike, so that px + py = 8 * (b + c) / (b + c - a) >= 8.
        int[][] oneBelow = {{0, 0, -16}, {8, 0, 16}, {0, 8, 16}};
        // px = 8 * b / (a - b - c) and py alike: each px >= 0, py >= 0 comes out with a large enough a.
        int[][] twoBelow = {{0, 0, 16}, {8, 0, -16}, {0, 8, -16}};
        // px = b / a and py = c / a: the corners 1 and 2 lie endlessly far to the right and down.
        int[][] twoZero = {{0, 0, 16}, {1, 0, 0}, {0, 1, 0}};
        for (int[] order : ORDERS) {
            ClipRaster r = new ClipRaster();
            drawInOrder(r, order, oneBelow, 0, 0, 0);
            drawInOrder(r, order, twoBelow, 0, 0, 0);
            drawInOrder(r, order, twoZero, 0, 0, 0);
            for (int n = 0; n < 3; n++) {
                due("covered(" + n + ")", r.covered(n), n == 0 ? 58 : 64);
                for (int line = 0; line < 16; line++) {
                    int inside = line < 8 ? 0 : n == 0 && 2 * (2 * line - 15) < 8 ? 0 : 1;
                    due("covers(" + n + ", " + line + ", " + line + ")", r.covers(n, line, line), inside);
                }
            }
        }
    }

    /** Every x and every y in -16 .. 16 is once the place of an edge; the odd ones meet centres. */
    private void edgesOnTheCentres() {
        sentence("Terms", "16*X = px*W; 16*Y = py*W");
        for (int x = -16; x <= 16; x++) {
            int y = (x + 16) * 7 % 33 - 16;
            seenBehind(x, y, 1, 1);
            seenBehind(x, y, 1, -1);
            seenBehind(x, y, -1, 1);
            seenBehind(x, y, -1, -1);
        }
    }

    /** From W = 16 * a, X = a * x + b * toX, Y = a * y + c * toY: px = x + b / a * toX, py alike. */
    private void seenBehind(int x, int y, int toX, int toY) {
        int[][] quarter = {{x, y, 16}, {toX, 0, 0}, {0, toY, 0}};
        ClipRaster r = new ClipRaster();
        drawInOrder(r, ORDERS[(x + 16) % 6], quarter, 5, 0, 0);
        String from = " from (" + x + ", " + y + ") along " + toX + " and " + toY;
        for (int at = 0; at < 256; at++) {
            int i = at % 16;
            int j = at / 16;
            boolean behind = (2 * i - 15 - x) * toX >= 0 && (2 * j - 15 - y) * toY >= 0;
            due("covers(0, " + i + ", " + j + ")" + from, r.covers(0, i, j), behind ? 1 : 0);
        }
    }

    private void zNotBelowZero() {
        sentence("Terms", "0 <= Z");
        for (int[] order : ORDERS) {
            due("Z = 10100 - 3 * 3367 = -1", coversMiddle(order, UNEVEN, 1, 0, -3), 0);
            due("Z = 0", coversMiddle(order, UNEVEN, 0, 0, 0), 1);
            due("Z = -10100 + 3 * 3367 = 1", coversMiddle(order, UNEVEN, -1, 0, 3), 1);
        }
        ClipRaster r = new ClipRaster();
        for (int z = -20; z <= 4; z++) {
            wholeWindow(r, z, 4);
            due("draw(0)", r.draw(0), 0);
            due("covered(0) with z = " + z + " and w = 4", r.covered(0), z < 0 ? 0 : 256);
            r.remove(0);
        }
    }

    private void zNotAboveW() {
        sentence("Terms", "Z <= W");
        for (int[] order : ORDERS) {
            due("Z = W - 1", coversMiddle(order, UNEVEN, 18, 15, 9), 1);
            due("Z = W", coversMiddle(order, UNEVEN, 17, 15, 12), 1);
            due("Z = W + 1", coversMiddle(order, UNEVEN, 16, 15, 15), 0);
        }
        ClipRaster r = new ClipRaster();
        for (int z = 0; z <= 20; z++) {
            wholeWindow(r, z, 4);
            due("draw(0)", r.draw(0), 0);
            due("covered(0) with z = " + z + " and w = 4", r.covered(0), z > 4 ? 0 : 256);
            r.remove(0);
        }
    }

    /**
     * The first corner is the centre of pixel (0, 0); b = 2 * i * a, c = 2 * j * a, and where
     * a = 1 then W = 16 and Z = z + 2 * i - 2 * j. The other triangle has the depth 1/2.
     */
    private void zOfCornersWithoutW() {
        sentence("Terms", "0 <= Z; Z <= W");
        int[][] quarter = {{-15, -15, 16}, {1, 0, 0}, {0, 1, 0}};
        for (int z : new int[] {-20, -15, -1, 0, 1, 7, 8, 9, 15, 16, 17, 20}) {
            ClipRaster r = new ClipRaster();
            drawOne(r, quarter, z, 1, -1);
            wholeWindow(r, 1, 2);
            r.draw(0);
            for (int at = 0; at < 256; at++) {
                int there = z + 2 * (at % 16) - 2 * (at / 16);
                int nearer = there < 8 ? 1 : there > 8 ? 2 : 0;
                int want = there < 0 || there > 16 ? -3 : nearer;
                due("nearer(0, 1, " + at + ") with Z = " + there, r.nearer(0, 1, at), want);
            }
        }
    }

    // Terms: depth and owner

    private void depthsZeroAndOne() {
        sentence("Terms", "an exact fraction in 0 .. 1");
        ClipRaster r = new ClipRaster();
        wholeWindow(r, 1, 1);
        r.draw(0);
        wholeWindow(r, 0, 1);
        r.draw(0);
        wholeWindow(r, 4, 4);
        r.draw(0);
        wholeWindow(r, 0, 4);
        r.draw(0);
        for (int at : new int[] {0, 15, 136, 240, 255}) {
            due("nearer(0, 1, " + at + "), 1 and 0", r.nearer(0, 1, at), 2);
            due("nearer(3, 2, " + at + "), 0 and 1", r.nearer(3, 2, at), 1);
            due("nearer(0, 2, " + at + "), 1 and 1", r.nearer(0, 2, at), 0);
            due("nearer(1, 3, " + at + "), 0 and 0", r.nearer(1, 3, at), 0);
            due("owner at " + at, r.owner(at % 16, at / 16), 1);
        }
        for (int[] order : ORDERS) {
            depthsOfLeastVolume(order);
        }
    }

    /** With the least volumes that aren't 0, which are 1 and -1, against a depth of 1/2. */
    private void depthsOfLeastVolume(int[] order) {
        int[][] quarter = {{0, 0, 1}, {1, 0, 0}, {0, 1, 0}};
        ClipRaster r = new ClipRaster();
        wholeWindow(r, 1, 2);
        r.draw(0);
        drawInOrder(r, order, quarter, 1, 0, 0);
        String volume = " with volume " + r.volume();
        due("nearer(0, 1, 255), 1/2 and 1" + volume, r.nearer(0, 1, 255), 1);
        due("nearer(1, 0, 255), 1 and 1/2" + volume, r.nearer(1, 0, 255), 2);
        due("owner(15, 15), still the first" + volume, r.owner(15, 15), 0);
        drawInOrder(r, order, quarter, 0, 0, 0);
        due("nearer(0, 2, 255), 1/2 and 0" + volume, r.nearer(0, 2, 255), 2);
        due("nearer(2, 0, 255), 0 and 1/2" + volume, r.nearer(2, 0, 255), 1);
        due("owner(15, 15), the last" + volume, r.owner(15, 15), 2);
    }

    /** Corners taken several times are the same rays, so cover and depth stay. */
    private void depthForEveryFactor() {
        sentence("Terms", "the same for every choice of the factor");
        int[][] factors = {{1, 1, 1}, {4, 4, 4}, {3, 1, 4}, {1, 4, 2}};
        for (int n = 0; n < factors.length; n++) {
            int[] f = factors[n];
            ClipRaster r = new ClipRaster();
            corner(r, 0, 1, 1, 1, 4);
            corner(r, 1, 5, 1, 3, 4);
            corner(r, 2, 1, 5, 2, 4);
            r.draw(0);
            corner(r, 0, f[0], f[0], f[0], 4 * f[0]);
            corner(r, 1, 5 * f[1], f[1], 3 * f[1], 4 * f[1]);
            corner(r, 2, f[2], 5 * f[2], 2 * f[2], 4 * f[2]);
            r.draw(0);
            due("covered(0)", r.covered(0), 30);
            due("covered(1) with factors " + n, r.covered(1), 30);
            due("owned(1) with factors " + n, r.owned(1), 0);
            for (int at = 0; at < 256; at++) {
                // The corners are at 4 and 20: px >= 4, py >= 4 and px + py <= 24.
                int px = 2 * (at % 16) - 15;
                int py = 2 * (at / 16) - 15;
                int want = px >= 4 && py >= 4 && px + py <= 24 ? 0 : -3;
                due("nearer(0, 1, " + at + ") with factors " + n, r.nearer(0, 1, at), want);
            }
        }
    }

    /** At pixel (8, 8) the depths differ by the least that these volumes let them, or not at all. */
    private void depthIsExact() {
        sentence("Terms", "The DEPTH of the triangle at a pixel that it covers is the quotient Z / W");
        int[][] second = {{18, 17, 9}, {8, -16, 18}, {-17, 19, 7}};
        int[][] third = {{-13, 12, 6}, {5, -20, 20}, {17, 20, 11}};
        int[][] fourth = {{-2, 18, 19}, {-16, -18, 14}, {16, -16, 5}};
        for (int[] order : ORDERS) {
            ClipRaster r = new ClipRaster();
            drawInOrder(r, order, UNEVEN, 14, 2, 1);
            drawInOrder(r, order, second, 19, 9, 1);
            // 150191 / 15799 against 146455 / 15406: the cross products differ by 1.
            due("nearer(0, 1, 136), greater by 1", r.nearer(0, 1, 136), 2);
            due("nearer(1, 0, 136), less by 1", r.nearer(1, 0, 136), 1);
            due("owner(8, 8), the second", r.owner(8, 8), 1);
            r = new ClipRaster();
            drawInOrder(r, order, third, 0, 17, 4);
            drawInOrder(r, order, UNEVEN, 14, 2, 2);
            // 137239 / 14120 against 153558 / 15799: the cross products differ by 1.
            due("nearer(0, 1, 136), greater by 1 again", r.nearer(0, 1, 136), 2);
            due("nearer(1, 0, 136), less by 1 again", r.nearer(1, 0, 136), 1);
            due("owner(8, 8), the second again", r.owner(8, 8), 1);
            r = new ClipRaster();
            drawInOrder(r, order, UNEVEN, 17, 1, 4);
            drawInOrder(r, order, fourth, 11, 7, 11);
            // 187880 / 15799 and 184800 / 15540 are the same.
            due("nearer(0, 1, 136), the same", r.nearer(0, 1, 136), 0);
            due("nearer(1, 0, 136), the same", r.nearer(1, 0, 136), 0);
            due("owner(8, 8), the first", r.owner(8, 8), 0);
        }
    }

    /** Depth 1 against a small one: the greater cross product would come out below 0 as an int. */
    private void depthsPastAnInt() {
        sentence("Terms", "the quotient Z / W, an exact fraction");
        int[][] other = {{18, 17, 9}, {8, -16, 18}, {-17, 19, 7}};
        for (int[] order : ORDERS) {
            ClipRaster r = new ClipRaster();
            // 252784 * 15406 = 3894390304 against 19087 * 15799 = 301555513.
            drawInOrder(r, order, UNEVEN, 17, 15, 12);
            drawInOrder(r, order, other, 1, 1, 1);
            due("nearer(0, 1, 136)", r.nearer(0, 1, 136), 2);
            due("nearer(1, 0, 136)", r.nearer(1, 0, 136), 1);
            due("owner(8, 8), the second", r.owner(8, 8), 1);
            r.remove(0);
            drawInOrder(r, order, UNEVEN, 17, 15, 12);
            due("owner(8, 8), now the first", r.owner(8, 8), 0);
        }
    }

    private void ownerHasLeastDepth() {
        sentence("Terms", "The OWNER of a pixel is, "
            + "among the drawn triangles that cover it, the one with the least depth there");
        for (int[] order : ORDERS) {
            ClipRaster r = new ClipRaster();
            int nearest = 0;
            for (int n = 0; n < 3; n++) {
                wholeWindow(r, order[n] + 1, 4);
                r.draw(0);
                nearest = order[n] == 0 ? n : nearest;
            }
            due("owner(8, 8)", r.owner(8, 8), nearest);
            due("owned of the nearest", r.owned(nearest), 256);
            // Nearer, but seen in one pixel only; and nearer still, but not seen at all.
            onePixel(r, 2, 13, 3);
            r.draw(0);
            wholeWindow(r, -1, 4);
            r.draw(0);
            due("owner(2, 13)", r.owner(2, 13), 3);
            due("owner(3, 13)", r.owner(3, 13), nearest);
            due("owned of the nearest but one", r.owned(nearest), 255);
            due("owned(3)", r.owned(3), 1);
            due("owned(4)", r.owned(4), 0);
        }
    }

    private void ownerHasLeastNumber() {
        sentence("Terms", "among several with just the same depth the one with the least number");
        ClipRaster r = new ClipRaster();
        wholeWindow(r, 3, 4);
        r.draw(0);
        for (int n = 1; n < 10; n++) {
            wholeWindow(r, n % 3 + 1, 2 * (n % 3 + 1));
            r.draw(0);
        }
        for (int left = 10; left > 1; left--) {
            due("owner(0, 0) with " + left, r.owner(0, 0), 1);
            due("owner(15, 15) with " + left, r.owner(15, 15), 1);
            due("owned(1) with " + left, r.owned(1), 256);
            due("owned of the last with " + left, r.owned(left - 1), left == 2 ? 256 : 0);
            due("remove(1)", r.remove(1), left - 1);
        }
        due("owned(0) alone", r.owned(0), 256);
    }

    private void pixelWithoutOwner() {
        sentence("Terms", "A pixel that no drawn triangle covers has no owner.");
        ClipRaster r = new ClipRaster();
        due("owner(8, 8) of an empty list", r.owner(8, 8), -2);
        cornerPatch(r, 0);
        due("owner(8, 8) with a draft not drawn", r.owner(8, 8), -2);
        r.draw(0);
        due("owner(8, 8) drawn", r.owner(8, 8), 0);
        due("owner(7, 8)", r.owner(7, 8), -2);
        due("owner(12, 12)", r.owner(12, 12), -2);
        due("lit()", r.lit(), 36);
        wholeWindow(r, 5, 4);
        r.draw(0);
        due("owner(7, 8) with one that is too far", r.owner(7, 8), -2);
        wholeWindow(r, 0, -1);
        r.draw(0);
        due("owner(7, 8) with one that is behind", r.owner(7, 8), -2);
        r.remove(0);
        due("owner(8, 8) removed", r.owner(8, 8), -2);
        due("lit() after it", r.lit(), 0);
    }
}
