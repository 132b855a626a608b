/** Each promise with ordinary inputs, the edges the document names, and wrong inputs. */
public final class PromisesTest extends Scenes {
    public static void main(String[] args) {
        PromisesTest test = new PromisesTest();
        test.runAll(
            test::promise1NewObject, test::promise2Place, test::promise3Depth, test::promise4Volume,
            test::promise5Draw, test::promise5DrawSide, test::promise6Remove, test::promise7Drawn,
            test::promise8Owner, test::promise8ExactDepth, test::promise9Owned,
            test::promise10Covered, test::promise10NearAndFar, test::promise10BehindTheEye,
            test::promise11Covers, test::promise12Lit, test::promise13FirstIn,
            test::promise14LastIn, test::promises13And14AtTheSides, test::promise15Nearer,
            test::questionsChangeNothing);
    }

    private void promise1NewObject() {
        ClipRaster r = new ClipRaster();
        due("1: drawn()", r.drawn(), 0);
        due("1: lit()", r.lit(), 0);
        due("1: volume()", r.volume(), 0);
        due("1: owned(0)", r.owned(0), -1);
        due("1: covered(0)", r.covered(0), -1);
        due("1: remove(0)", r.remove(0), -1);
        due("1: nearer(0, 0, 0)", r.nearer(0, 0, 0), -1);
        for (int at = 0; at < 256; at++) {
            due("1: owner at " + at, r.owner(at % 16, at / 16), -2);
        }
        r.draw(0);
        due("1: another object's drawn()", new ClipRaster().drawn(), 0);
    }

    private void promise2Place() {
        ClipRaster r = new ClipRaster();
        cornerPatch(r, 0);
        due("2: volume()", r.volume(), 16 * 14 * 14);
        for (int k : new int[] {LEAST, -1, 3, GREATEST}) {
            due("2: place(" + k + ", 0, 0)", r.place(k, 0, 0), -1);
            due("2: place(" + k + ", 21, 21)", r.place(k, 21, 21), -1);
        }
        for (int off : new int[] {LEAST, -21, 21, GREATEST}) {
            for (int k = 0; k < 3; k++) {
                due("2: place(" + k + ", " + off + ", 0)", r.place(k, off, 0), -2);
                due("2: place(" + k + ", 0, " + off + ")", r.place(k, 0, off), -2);
            }
        }
        due("2: volume() after refusals", r.volume(), 16 * 14 * 14);
        due("2: place(0, -20, -20)", r.place(0, -20, -20), 0);
        due("2: place(1, 20, -20)", r.place(1, 20, -20), 0);
        due("2: place(2, -20, 20)", r.place(2, -20, 20), 0);
        due("2: volume() keeps w", r.volume(), 16 * 40 * 40);
        r.draw(0);
        due("2: depth stays", r.covered(0), 136);
        r.place(0, 20, 20);
        due("2: a drawn triangle is a copy", r.covered(0), 136);
    }

    private void promise3Depth() {
        ClipRaster r = new ClipRaster();
        cornerPatch(r, 16);
        for (int k : new int[] {LEAST, -1, 3, GREATEST}) {
            due("3: depth(" + k + ", 0, 0)", r.depth(k, 0, 0), -1);
            due("3: depth(" + k + ", 21, 21)", r.depth(k, 21, 21), -1);
        }
        for (int off : new int[] {LEAST, -21, 21, GREATEST}) {
            for (int k = 0; k < 3; k++) {
                due("3: depth(" + k + ", " + off + ", 0)", r.depth(k, off, 0), -2);
                due("3: depth(" + k + ", 0, " + off + ")", r.depth(k, 0, off), -2);
            }
        }
        due("3: volume() after refusals", r.volume(), 16 * 14 * 14);
        r.draw(0);
        due("3: z after refusals", r.covered(0), 36);
        for (int k = 0; k < 3; k++) {
            due("3: depth(" + k + ", 20, 20)", r.depth(k, 20, 20), 0);
        }
        due("3: volume() keeps x and y", r.volume(), 20 * 14 * 14);
        due("3: depth(0, -20, -20)", r.depth(0, -20, -20), 0);
        due("3: volume() with one w below 0", r.volume(), -20 * (15 * 15 - 1) - 2 * 20 * 14);
        due("3: a drawn triangle is a copy", r.covered(0), 36);
    }

    private void promise4Volume() {
        ClipRaster r = new ClipRaster();
        corner(r, 0, 2, 3, 19, 5);
        corner(r, 1, 7, 11, -19, 13);
        corner(r, 2, 17, 19, 18, -4);
        due("4: volume()", r.volume(),
            2 * (11 * -4 - 19 * 13) - 3 * (7 * -4 - 17 * 13) + 5 * (7 * 19 - 17 * 11));
        corner(r, 0, 20, 20, 0, 20);
        corner(r, 1, 20, -20, 0, 20);
        corner(r, 2, 20, 20, 0, -20);
        due("4: greatest volume()", r.volume(), 32000);
        corner(r, 2, -20, -20, 0, 20);
        due("4: least volume()", r.volume(), -32000);
        corner(r, 2, 20, 20, 5, 20);
        due("4: volume() with two like corners", r.volume(), 0);
        r.draw(0);
        r.place(0, 1, 0);
        due("4: the draft's volume, not the list's", r.volume(), 1 * (-20 * 20 - 20 * 20) + 20 * 800);
    }

    private void promise5Draw() {
        ClipRaster r = new ClipRaster();
        for (int side : new int[] {LEAST, -1, 3, GREATEST}) {
            due("5: draw(" + side + ")", r.draw(side), -1);
        }
        due("5: drawn() after refusals", r.drawn(), 0);
        for (int n = 0; n < 10; n++) {
            wholeWindow(r, 0, 1);
            due("5: draw(0), number " + n, r.draw(0), n);
        }
        due("5: the tenth is whole", r.covered(9), 256);
        due("5: draw(0) on a full list", r.draw(0), -2);
        due("5: draw(1) on a full list", r.draw(1), -2);
        due("5: draw(2) that doesn't fit either", r.draw(2), -2);
        due("5: draw(3) on a full list", r.draw(3), -1);
        due("5: drawn() of a full list", r.drawn(), 10);
        r.remove(9);
        due("5: draw(1) after remove", r.draw(1), 9);
    }

    private void promise5DrawSide() {
        ClipRaster r = new ClipRaster();
        due("5: draw(1) with volume 0", r.draw(1), -3);
        due("5: draw(2) with volume 0", r.draw(2), -3);
        due("5: draw(0) with volume 0", r.draw(0), 0);
        corner(r, 0, 1, 0, 0, 0);
        corner(r, 1, 0, 1, 0, 0);
        corner(r, 2, 0, 0, 0, 1);
        due("5: volume 1", r.volume(), 1);
        due("5: draw(2) with volume 1", r.draw(2), -3);
        due("5: draw(1) with volume 1", r.draw(1), 1);
        due("5: draw(0) with volume 1", r.draw(0), 2);
        r.depth(2, 0, -1);
        due("5: volume -1", r.volume(), -1);
        due("5: draw(1) with volume -1", r.draw(1), -3);
        due("5: draw(2) with volume -1", r.draw(2), 3);
        due("5: draw(0) with volume -1", r.draw(0), 4);
        due("5: drawn()", r.drawn(), 5);
        due("5: drawing keeps the draft", r.volume(), -1);
    }

    private void promise6Remove() {
        ClipRaster r = new ClipRaster();
        cornerPatch(r, 4);
        r.draw(0);
        wholeWindow(r, 1, 2);
        r.draw(0);
        wholeWindow(r, 2, 1);
        r.draw(0);
        for (int number : new int[] {LEAST, -1, 3, 10, GREATEST}) {
            due("6: remove(" + number + ")", r.remove(number), -1);
        }
        due("6: drawn() after refusals", r.drawn(), 3);
        due("6: remove(0)", r.remove(0), 2);
        due("6: the second is now the first", r.covered(0), 256);
        due("6: the third is now the second", r.covered(1), 0);
        due("6: no third", r.covered(2), -1);
        due("6: owner(8, 8)", r.owner(8, 8), 0);
        due("6: remove(1), the last", r.remove(1), 1);
        due("6: the first stays", r.covered(0), 256);
        due("6: remove(0), the only one", r.remove(0), 0);
        due("6: lit()", r.lit(), 0);
        due("6: remove(0) of none", r.remove(0), -1);
        due("6: the draft stays", r.volume(), 1600);
        r = full();
        due("6: remove(9)", r.remove(9), 9);
        due("6: remove(0) of nine", r.remove(0), 8);
        due("6: draw(0) after both", r.draw(0), 8);
    }

    private void promise7Drawn() {
        ClipRaster r = new ClipRaster();
        r.draw(1);
        due("7: drawn() after a refused draw", r.drawn(), 0);
        r.draw(0);
        r.draw(0);
        due("7: drawn()", r.drawn(), 2);
        r.remove(5);
        due("7: drawn() after a refused remove", r.drawn(), 2);
        r.remove(1);
        due("7: drawn() after remove", r.drawn(), 1);
        due("7: drawn() when full", full().drawn(), 10);
    }

    private void promise8Owner() {
        ClipRaster r = new ClipRaster();
        cornerPatch(r, 8);
        r.draw(0);
        for (int off : new int[] {LEAST, -1, 16, GREATEST}) {
            due("8: owner(" + off + ", 8)", r.owner(off, 8), -1);
            due("8: owner(8, " + off + ")", r.owner(8, off), -1);
        }
        due("8: owner on corner 0", r.owner(8, 8), 0);
        due("8: owner on corner 1", r.owner(15, 8), 0);
        due("8: owner on corner 2", r.owner(8, 15), 0);
        due("8: owner on an edge", r.owner(12, 11), 0);
        due("8: owner outside the edge", r.owner(12, 12), -2);
        due("8: owner(7, 8)", r.owner(7, 8), -2);
        due("8: owner(8, 7)", r.owner(8, 7), -2);
        due("8: owner(0, 0)", r.owner(0, 0), -2);
        wholeWindow(r, 3, 4);
        r.draw(0);
        wholeWindow(r, 2, 4);
        r.draw(0);
        due("8: of equals the least number", r.owner(8, 8), 0);
        due("8: the lesser depth", r.owner(0, 0), 2);
        wholeWindow(r, 1, 3);
        r.draw(0);
        due("8: a later, nearer one", r.owner(8, 8), 3);
        r.remove(0);
        due("8: with its new number", r.owner(8, 8), 2);
        wholeWindow(r, 1, 3);
        r.draw(0);
        due("8: the like one behind it", r.owner(8, 8), 2);
        r.remove(2);
        due("8: the like one in its place", r.owner(8, 8), 2);
    }

    /** Depth a / 20 against b / 19, in both orders; the products to compare go past an int. */
    private void promise8ExactDepth() {
        for (int a = 0; a <= 20; a++) {
            for (int b = 0; b <= 19; b++) {
                ClipRaster r = new ClipRaster();
                wholeWindow(r, a, 20);
                r.draw(0);
                wholeWindow(r, b, 19);
                r.draw(0);
                int order = Integer.compare(a * 19, b * 20);
                String depths = " with depths " + a + "/20 and " + b + "/19";
                due("8: owner(7, 7)" + depths, r.owner(7, 7), order <= 0 ? 0 : 1);
                int first = order < 0 ? 1 : order > 0 ? 2 : 0;
                due("15: nearer(0, 1, 119)" + depths, r.nearer(0, 1, 119), first);
                due("15: nearer(1, 0, 119)" + depths, r.nearer(1, 0, 119), (3 - first) % 3);
            }
        }
    }

    private void promise9Owned() {
        ClipRaster r = new ClipRaster();
        wholeWindow(r, 1, 2);
        r.draw(0);
        due("9: owned(0) alone", r.owned(0), 256);
        cornerPatch(r, 7);
        r.draw(0);
        cornerPatch(r, 9);
        r.draw(0);
        cornerPatch(r, 7);
        r.draw(0);
        due("9: owned(0)", r.owned(0), 220);
        due("9: owned(1), the nearest", r.owned(1), 36);
        due("9: owned(2), the farthest", r.owned(2), 0);
        due("9: owned(3), as near but later", r.owned(3), 0);
        for (int number : new int[] {LEAST, -2, -1, 4, 10, GREATEST}) {
            due("9: owned(" + number + ")", r.owned(number), -1);
        }
        r.remove(1);
        due("9: owned(2) after remove", r.owned(2), 36);
    }

    private void promise10Covered() {
        ClipRaster r = new ClipRaster();
        r.draw(0);
        due("10: covered(0) with volume 0", r.covered(0), 0);
        wholeWindow(r, 0, 1);
        r.place(2, 0, -20);
        r.draw(0);
        due("10: covered(1) on a line", r.covered(1), 0);
        cornerPatch(r, 0);
        r.draw(0);
        due("10: covered(2)", r.covered(2), 36);
        wholeWindow(r, 0, 4);
        r.draw(0);
        due("10: covered(3), the whole window", r.covered(3), 256);
        due("10: covered(2) counts hidden pixels too", r.covered(2), 36);
        for (int number : new int[] {LEAST, -1, 4, 10, GREATEST}) {
            due("10: covered(" + number + ")", r.covered(number), -1);
        }
    }

    private void promise10NearAndFar() {
        int[] depths = {-1, 0, 3, 4, 5};
        int[] pixels = {0, 256, 256, 256, 0};
        for (int n = 0; n < depths.length; n++) {
            ClipRaster r = new ClipRaster();
            wholeWindow(r, depths[n], 4);
            r.draw(0);
            due("10: covered(0) with depth " + depths[n] + "/4", r.covered(0), pixels[n]);
        }
        ClipRaster r = new ClipRaster();
        // z = x at every corner, so the depth is px / 16: what is left of the middle is too near.
        corner(r, 0, -20, -20, -20, 16);
        corner(r, 1, 20, -20, 20, 16);
        corner(r, 2, -20, 20, -20, 16);
        r.draw(0);
        due("10: covered(0) cut by 0 <= Z", r.covered(0), 36);
        // z = x + w at every corner, so the depth is px / 16 + 1: the right half is too far.
        corner(r, 0, -10, -10, -2, 8);
        corner(r, 1, 10, -10, 18, 8);
        corner(r, 2, -10, 10, -2, 8);
        r.draw(0);
        due("10: covered(1) cut by Z <= W", r.covered(1), 100);
        cornerPatch(r, 0);
        r.depth(1, 16, 16);
        r.depth(2, -1, 16);
        r.draw(0);
        due("10: Z = 0 at the corner", r.covers(2, 8, 8), 1);
        due("10: Z = W at the corner", r.covers(2, 15, 8), 1);
        due("10: Z < 0 at the corner", r.covers(2, 8, 15), 0);
    }

    private void promise10BehindTheEye() {
        ClipRaster r = new ClipRaster();
        wholeWindow(r, 0, -1);
        r.draw(0);
        due("10: covered(0) with every w below 0", r.covered(0), 0);
        // In the plane w = 1 this is all with x >= -1 and y >= 0: two corners lie at infinity.
        corner(r, 0, 1, 0, 0, 0);
        corner(r, 1, -1, 0, 0, 1);
        corner(r, 2, 0, 1, 0, 0);
        r.draw(0);
        due("10: covered(1) with two w = 0", r.covered(1), 128);
        // A corner behind the eye: seen is px >= 0, py >= 0, px + py >= 8, so six centres are cut.
        corner(r, 0, 0, 0, 0, -16);
        corner(r, 1, 8, 0, 0, 16);
        corner(r, 2, 0, 8, 0, 16);
        r.draw(0);
        due("10: covered(2) with one w below 0", r.covered(2), 64 - 6);
        due("10: the side before the edge", r.covers(2, 8, 8), 0);
        due("10: on the edge", r.covers(2, 8, 11), 1);
        due("10: behind the edge", r.covers(2, 15, 15), 1);
        due("10: the mirrored pixel", r.covers(2, 0, 0), 0);
    }

    private void promise11Covers() {
        // No object is asked more than 512 times, since the rest of its answers would be free.
        ClipRaster whole = new ClipRaster();
        wholeWindow(whole, 0, 1);
        whole.draw(0);
        ClipRaster r = new ClipRaster();
        cornerPatch(r, 16);
        r.draw(0);
        wholeWindow(r, 0, 1);
        r.draw(0);
        for (int at = 0; at < 256; at++) {
            int i = at % 16;
            int j = at / 16;
            int inside = i >= 8 && j >= 8 && i + j <= 23 ? 1 : 0;
            due("11: covers(0, " + i + ", " + j + ")", r.covers(0, i, j), inside);
            due("11: whole: covers(0, " + i + ", " + j + ")", whole.covers(0, i, j), 1);
        }
        for (int number : new int[] {LEAST, -1, 2, 10, GREATEST}) {
            due("11: covers(" + number + ", 8, 8)", r.covers(number, 8, 8), -1);
            due("11: covers(" + number + ", 16, 16)", r.covers(number, 16, 16), -1);
        }
        for (int off : new int[] {LEAST, -1, 16, GREATEST}) {
            due("11: covers(0, " + off + ", 8)", r.covers(0, off, 8), -2);
            due("11: covers(0, 8, " + off + ")", r.covers(0, 8, off), -2);
        }
    }

    private void promise12Lit() {
        ClipRaster r = new ClipRaster();
        r.draw(0);
        due("12: lit() with volume 0", r.lit(), 0);
        cornerPatch(r, 3);
        r.draw(0);
        r.draw(0);
        due("12: lit() counts a pixel once", r.lit(), 36);
        corner(r, 0, -1, -1, 0, 16);
        corner(r, 1, -15, -1, 0, 16);
        corner(r, 2, -1, -15, 0, 16);
        due("12: lit() leaves the draft out", r.lit(), 36);
        r.draw(0);
        due("12: lit() of two patches", r.lit(), 72);
        r.remove(1);
        due("12: lit() with a like one left", r.lit(), 72);
        r.remove(1);
        due("12: lit() of one patch", r.lit(), 36);
        wholeWindow(r, 1, 1);
        r.draw(0);
        due("12: lit() of the whole window", r.lit(), 256);
    }

    private void promise13FirstIn() {
        ClipRaster r = steps();
        for (int j = 0; j < 16; j++) {
            due("13: firstIn(0, " + j + ")", r.firstIn(0, j), j < 8 ? 8 : -3);
            due("13: firstIn(1, " + j + ")", r.firstIn(1, j), 0);
            due("13: firstIn(2, " + j + ")", r.firstIn(2, j), -3);
        }
        for (int number : new int[] {LEAST, -1, 3, 10, GREATEST}) {
            due("13: firstIn(" + number + ", 0)", r.firstIn(number, 0), -1);
            due("13: firstIn(" + number + ", 16)", r.firstIn(number, 16), -1);
        }
        for (int off : new int[] {LEAST, -1, 16, GREATEST}) {
            due("13: firstIn(0, " + off + ")", r.firstIn(0, off), -2);
        }
    }

    private void promise14LastIn() {
        ClipRaster r = steps();
        for (int j = 0; j < 16; j++) {
            due("14: lastIn(0, " + j + ")", r.lastIn(0, j), j < 8 ? 15 - j : -3);
            due("14: lastIn(1, " + j + ")", r.lastIn(1, j), 15);
            due("14: lastIn(2, " + j + ")", r.lastIn(2, j), -3);
        }
        for (int number : new int[] {LEAST, -1, 3, 10, GREATEST}) {
            due("14: lastIn(" + number + ", 0)", r.lastIn(number, 0), -1);
            due("14: lastIn(" + number + ", 16)", r.lastIn(number, 16), -1);
        }
        for (int off : new int[] {LEAST, -1, 16, GREATEST}) {
            due("14: lastIn(0, " + off + ")", r.lastIn(0, off), -2);
        }
    }

    /** Slim triangles about px = -17 (outside), -15 (column 0), 15 (column 15) and 17 (outside). */
    private void promises13And14AtTheSides() {
        int[] middles = {-17, -15, 15, 17};
        int[] columns = {-3, 0, 15, -3};
        ClipRaster r = new ClipRaster();
        for (int n = 0; n < middles.length; n++) {
            corner(r, 0, middles[n] - 1, -2, 0, 16);
            corner(r, 1, middles[n] + 1, -2, 0, 16);
            corner(r, 2, middles[n], 2, 0, 16);
            r.draw(0);
            for (int j = 0; j < 16; j++) {
                int want = j == 7 || j == 8 ? columns[n] : -3;
                due("13: slim firstIn(" + n + ", " + j + ")", r.firstIn(n, j), want);
                due("14: slim lastIn(" + n + ", " + j + ")", r.lastIn(n, j), want);
            }
        }
    }

    private void promise15Nearer() {
        ClipRaster r = new ClipRaster();
        cornerPatch(r, 8);
        r.depth(1, 16, 16);
        r.draw(0);
        wholeWindow(r, 3, 4);
        r.draw(0);
        // Along row 8 the first one's depth is 1/2 + (i - 8)/14, which is 3/4 at i = 11.5.
        for (int i = 8; i < 16; i++) {
            due("15: nearer(0, 1) in column " + i, r.nearer(0, 1, 128 + i), i < 12 ? 1 : 2);
            due("15: nearer(1, 0) in column " + i, r.nearer(1, 0, 128 + i), i < 12 ? 2 : 1);
        }
        wholeWindow(r, 1, 2);
        r.draw(0);
        due("15: nearer(0, 2, 136), the same depth", r.nearer(0, 2, 136), 0);
        due("15: nearer(2, 0, 136), the same depth", r.nearer(2, 0, 136), 0);
        due("15: nearer(0, 0, 136)", r.nearer(0, 0, 136), 0);
        due("15: nearer(2, 1, 0)", r.nearer(2, 1, 0), 1);
        due("15: nearer(2, 1, 255)", r.nearer(2, 1, 255), 1);
        due("15: nearer(0, 1, 135), row 8, column 7", r.nearer(0, 1, 135), -3);
        due("15: nearer(1, 0, 135)", r.nearer(1, 0, 135), -3);
        due("15: nearer(0, 0, 0)", r.nearer(0, 0, 0), -3);
        due("15: at has the row in front", r.nearer(0, 1, 16 * 15 + 8), 1);
        for (int number : new int[] {LEAST, -1, 3, 10, GREATEST}) {
            due("15: nearer(" + number + ", 1, 0)", r.nearer(number, 1, 0), -1);
            due("15: nearer(1, " + number + ", 0)", r.nearer(1, number, 0), -1);
            due("15: nearer(1, " + number + ", 256)", r.nearer(1, number, 256), -1);
        }
        for (int at : new int[] {LEAST, -1, 256, GREATEST}) {
            due("15: nearer(0, 1, " + at + ")", r.nearer(0, 1, at), -2);
        }
    }

    private void questionsChangeNothing() {
        ClipRaster r = steps();
        for (int turn = 0; turn < 3; turn++) {
            due("volume(), turn " + turn, r.volume(), 0);
            due("drawn(), turn " + turn, r.drawn(), 3);
            due("owner(8, 0), turn " + turn, r.owner(8, 0), 1);
            due("owned(1), turn " + turn, r.owned(1), 256);
            due("covered(0), turn " + turn, r.covered(0), 36);
            due("covers(0, 8, 7), turn " + turn, r.covers(0, 8, 7), 1);
            due("lit(), turn " + turn, r.lit(), 256);
            due("firstIn(0, 7), turn " + turn, r.firstIn(0, 7), 8);
            due("lastIn(0, 0), turn " + turn, r.lastIn(0, 0), 15);
            due("nearer(0, 1, 8), turn " + turn, r.nearer(0, 1, 8), 2);
        }
    }
}
