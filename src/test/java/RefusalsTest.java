/**
 * The sentences of promises 1 to 15 that name a boundary case, each with a test of its own: what is
 * refused, with which number, in which order, and the last arguments that are not refused.
 */
public final class RefusalsTest extends Scenes {
    private static final String IN_ORDER = "In every method the tests are made in the order named.";

    public static void main(String[] args) {
        RefusalsTest test = new RefusalsTest();
        test.runAll(
            test::emptyAtFirst, test::placeCorner, test::placeRange, test::placeOtherwise,
            test::placeOrder, test::depthCorner, test::depthRange, test::depthOtherwise,
            test::depthOrder, test::volumeOfTheDraft, test::drawAnySide, test::drawSide1,
            test::drawSide2, test::drawWrongSide, test::drawOnFullList,
            test::drawSideThatDoesNotFit, test::drawNewNumber, test::drawOrder,
            test::removeShiftsLaterOnes, test::removeMissing, test::removeHowManyAreLeft,
            test::drawnHowMany, test::ownerOffWindow, test::ownerNobody, test::ownerOrder,
            test::ownedHowMany, test::ownedMissing, test::coveredHowMany, test::coveredMissing,
            test::coversOneOrZero, test::coversMissing, test::coversOffWindow, test::coversOrder,
            test::litHowMany, test::firstInLeastColumn, test::firstInMissing,
            test::firstInOffWindow, test::firstInEmptyRow, test::firstInOrder,
            test::lastInGreatestColumn, test::lastInMissing, test::lastInOffWindow,
            test::lastInEmptyRow, test::lastInOrder, test::nearerOneTwoOrZero, test::nearerMissing,
            test::nearerOffWindow, test::nearerOffPixels, test::nearerNotCovered,
            test::nearerOnePixelNumber, test::nearerOrder);
    }

    /** Had ten drawn, of which the last seven are removed again; each sees the whole window. */
    private static ClipRaster threeLeft() {
        ClipRaster r = new ClipRaster();
        wholeWindow(r, 1, 2);
        for (int n = 0; n < 10; n++) {
            r.draw(0);
        }
        for (int n = 9; n > 2; n--) {
            r.remove(n);
        }
        return r;
    }

    /** Ten that see the whole window, and a draft that does too. */
    private static ClipRaster tenWhole() {
        ClipRaster r = new ClipRaster();
        wholeWindow(r, 1, 2);
        for (int n = 0; n < 10; n++) {
            r.draw(0);
        }
        return r;
    }

    // Promise 1

    private void emptyAtFirst() {
        sentence("Promise 1", "The list is empty at first.");
        ClipRaster r = new ClipRaster();
        due("drawn()", r.drawn(), 0);
        due("lit()", r.lit(), 0);
        for (int number = 0; number <= 10; number++) {
            due("remove(" + number + ")", r.remove(number), -1);
            due("owned(" + number + ")", r.owned(number), -1);
            due("covered(" + number + ")", r.covered(number), -1);
            due("covers(" + number + ", 0, 0)", r.covers(number, 0, 0), -1);
            due("firstIn(" + number + ", 0)", r.firstIn(number, 0), -1);
            due("lastIn(" + number + ", 0)", r.lastIn(number, 0), -1);
            due("nearer(" + number + ", " + number + ", 0)", r.nearer(number, number, 0), -1);
        }
        for (int at = 0; at < 256; at++) {
            due("owner at " + at, r.owner(at % 16, at / 16), -2);
        }
        due("draw(0)", r.draw(0), 0);
        due("drawn() of an object made after it", new ClipRaster().drawn(), 0);
    }

    // Promises 2 and 3

    private void placeCorner() {
        sentence("Promise 2", "-1 if k is not in 0 .. 2");
        ClipRaster r = new ClipRaster();
        for (int k : noCorners()) {
            due("place(" + k + ", 0, 0)", r.place(k, 0, 0), -1);
        }
        for (int k = 0; k <= 2; k++) {
            due("place(" + k + ", 0, 0)", r.place(k, 0, 0), 0);
        }
    }

    private void placeRange() {
        sentence("Promise 2", "-2 if x or y is not in -20 .. 20");
        for (int k = 0; k <= 2; k++) {
            ClipRaster r = new ClipRaster();
            for (int off : offRange()) {
                due("place(" + k + ", " + off + ", 0)", r.place(k, off, 0), -2);
                due("place(" + k + ", 0, " + off + ")", r.place(k, 0, off), -2);
                due("place(" + k + ", 20, " + off + ")", r.place(k, 20, off), -2);
                due("place(" + k + ", " + off + ", -20)", r.place(k, off, -20), -2);
                due("place(" + k + ", " + off + ", " + off + ")", r.place(k, off, off), -2);
                due("place(" + k + ", " + off + ", " + -off + ")", r.place(k, off, -off), -2);
            }
        }
    }

    private void placeOtherwise() {
        sentence("Promise 2", "Sets x and y of corner k of the draft.");
        for (int k = 0; k <= 2; k++) {
            ClipRaster r = new ClipRaster();
            // With the others at (0, 1, 0) and (0, 0, 1), or (1, 0, 0), the volume is x, or -y.
            ClipRaster s = new ClipRaster();
            corner(r, (k + 1) % 3, 0, 1, 0, 0);
            corner(r, (k + 2) % 3, 0, 0, 0, 1);
            corner(s, (k + 1) % 3, 1, 0, 0, 0);
            corner(s, (k + 2) % 3, 0, 0, 0, 1);
            for (int x = -20; x <= 20; x++) {
                int y = 20 - (x + 20) * 7 % 41;
                due("place(" + k + ", " + x + ", " + y + ")", r.place(k, x, y), 0);
                due("place(" + k + ", " + x + ", " + y + ")", s.place(k, x, y), 0);
                due("volume(), which is x", r.volume(), x);
                due("volume(), which is -y", s.volume(), -y);
            }
        }
    }

    private void placeOrder() {
        sentence("Promise 2", IN_ORDER);
        ClipRaster r = new ClipRaster();
        for (int k : noCorners()) {
            due("place(" + k + ", 21, 0)", r.place(k, 21, 0), -1);
            due("place(" + k + ", 0, -21)", r.place(k, 0, -21), -1);
            due("place(" + k + ", LEAST, GREATEST)", r.place(k, LEAST, GREATEST), -1);
        }
    }

    private void depthCorner() {
        sentence("Promise 3", "-1 if k is not in 0 .. 2");
        ClipRaster r = new ClipRaster();
        for (int k : noCorners()) {
            due("depth(" + k + ", 0, 0)", r.depth(k, 0, 0), -1);
        }
        for (int k = 0; k <= 2; k++) {
            due("depth(" + k + ", 0, 0)", r.depth(k, 0, 0), 0);
        }
    }

    private void depthRange() {
        sentence("Promise 3", "-2 if z or w is not in -20 .. 20");
        for (int k = 0; k <= 2; k++) {
            ClipRaster r = new ClipRaster();
            for (int off : offRange()) {
                due("depth(" + k + ", " + off + ", 0)", r.depth(k, off, 0), -2);
                due("depth(" + k + ", 0, " + off + ")", r.depth(k, 0, off), -2);
                due("depth(" + k + ", 20, " + off + ")", r.depth(k, 20, off), -2);
                due("depth(" + k + ", " + off + ", -20)", r.depth(k, off, -20), -2);
                due("depth(" + k + ", " + off + ", " + off + ")", r.depth(k, off, off), -2);
                due("depth(" + k + ", " + off + ", " + -off + ")", r.depth(k, off, -off), -2);
            }
        }
    }

    private void depthOtherwise() {
        sentence("Promise 3", "Sets z and w of corner k of the draft.");
        for (int k = 0; k <= 2; k++) {
            ClipRaster r = new ClipRaster();
            // With the others at (1, 0, 0) and (0, 1, 0) the volume is w.
            corner(r, (k + 1) % 3, 1, 0, 0, 0);
            corner(r, (k + 2) % 3, 0, 1, 0, 0);
            for (int w = -20; w <= 20; w++) {
                int z = 20 - (w + 20) * 7 % 41;
                due("depth(" + k + ", " + z + ", " + w + ")", r.depth(k, z, w), 0);
                due("volume(), which is w", r.volume(), w);
                r.draw(0);
                // Seen is the quarter of the window beyond its middle, at the depth z / w.
                int seen = w > 0 && z >= 0 && z <= w ? 64 : 0;
                due("covered(0) with z = " + z + " and w = " + w, r.covered(0), seen);
                r.remove(0);
            }
        }
    }

    private void depthOrder() {
        sentence("Promise 3", IN_ORDER);
        ClipRaster r = new ClipRaster();
        for (int k : noCorners()) {
            due("depth(" + k + ", 21, 0)", r.depth(k, 21, 0), -1);
            due("depth(" + k + ", 0, -21)", r.depth(k, 0, -21), -1);
            due("depth(" + k + ", LEAST, GREATEST)", r.depth(k, LEAST, GREATEST), -1);
        }
    }

    // Promise 4

    private void volumeOfTheDraft() {
        sentence("Promise 4", "The volume of the draft.");
        ClipRaster r = new ClipRaster();
        due("volume() at first", r.volume(), 0);
        corner(r, 0, 20, 20, 20, 20);
        corner(r, 1, 20, -20, 20, 20);
        corner(r, 2, 20, 20, 20, -20);
        due("the greatest volume()", r.volume(), 32000);
        r.draw(0);
        corner(r, 0, -20, -20, -20, -20);
        due("the least volume(), not that of the one drawn", r.volume(), -32000);
        r.draw(0);
        r.remove(0);
        due("volume() after remove(0)", r.volume(), -32000);
        due("volume() with ten drawn", tenWhole().volume(), 3200);
    }

    // Promise 5

    /** Makes the volume of the draft this number, which is in -20 .. 20. */
    private static ClipRaster withVolume(int volume) {
        ClipRaster r = new ClipRaster();
        corner(r, 0, 1, 0, 0, 0);
        corner(r, 1, 0, 1, 0, 0);
        corner(r, 2, 0, 0, 0, volume);
        return r;
    }

    private static ClipRaster withGreatestVolume() {
        ClipRaster r = new ClipRaster();
        corner(r, 0, 20, 20, 0, 20);
        corner(r, 1, 20, -20, 0, 20);
        corner(r, 2, 20, 20, 0, -20);
        return r;
    }

    private static ClipRaster withLeastVolume() {
        ClipRaster r = withGreatestVolume();
        corner(r, 0, -20, -20, 0, -20);
        return r;
    }

    private void drawAnySide() {
        sentence("Promise 5", "side 0: in any case");
        for (int volume = -2; volume <= 2; volume++) {
            due("draw(0) with volume " + volume, withVolume(volume).draw(0), 0);
        }
        due("draw(0) with volume 32000", withGreatestVolume().draw(0), 0);
        due("draw(0) with volume -32000", withLeastVolume().draw(0), 0);
    }

    private void drawSide1() {
        sentence("Promise 5", "side 1: only if its volume is greater than 0");
        for (int volume = -2; volume <= 2; volume++) {
            ClipRaster r = withVolume(volume);
            due("draw(1) with volume " + volume, r.draw(1), volume > 0 ? 0 : -3);
            due("drawn() after it", r.drawn(), volume > 0 ? 1 : 0);
        }
        due("draw(1) with volume 32000", withGreatestVolume().draw(1), 0);
        due("draw(1) with volume -32000", withLeastVolume().draw(1), -3);
    }

    private void drawSide2() {
        sentence("Promise 5", "side 2: only if its volume is less than 0");
        for (int volume = -2; volume <= 2; volume++) {
            ClipRaster r = withVolume(volume);
            due("draw(2) with volume " + volume, r.draw(2), volume < 0 ? 0 : -3);
            due("drawn() after it", r.drawn(), volume < 0 ? 1 : 0);
        }
        due("draw(2) with volume 32000", withGreatestVolume().draw(2), -3);
        due("draw(2) with volume -32000", withLeastVolume().draw(2), 0);
    }

    private void drawWrongSide() {
        sentence("Promise 5", "-1 if side is not in 0 .. 2");
        for (int side : noSides()) {
            due("draw(" + side + ") with volume -1", withVolume(-1).draw(side), -1);
            due("draw(" + side + ") with volume 0", withVolume(0).draw(side), -1);
            due("draw(" + side + ") with volume 1", withVolume(1).draw(side), -1);
        }
    }

    private void drawOnFullList() {
        sentence("Promise 5", "-2 if the list holds 10 triangles");
        ClipRaster r = withVolume(1);
        for (int n = 0; n < 10; n++) {
            due("draw(1) with " + n + " drawn", r.draw(1), n);
        }
        due("draw(0) with 10 drawn", r.draw(0), -2);
        due("draw(1) with 10 drawn", r.draw(1), -2);
        due("drawn()", r.drawn(), 10);
        for (int number = 9; number >= 0; number--) {
            due("remove(" + number + ")", r.remove(number), 9);
            due("draw(1) with 9 drawn", r.draw(1), 9);
            due("draw(1) with 10 drawn", r.draw(1), -2);
        }
    }

    private void drawSideThatDoesNotFit() {
        sentence("Promise 5", "-3 if the side does not fit the volume");
        due("draw(1) of a new object", new ClipRaster().draw(1), -3);
        due("draw(2) of a new object", new ClipRaster().draw(2), -3);
        ClipRaster r = withVolume(1);
        for (int n = 0; n < 10; n++) {
            due("draw(2) with " + n + " drawn", r.draw(2), -3);
            due("draw(0)", r.draw(0), n);
        }
        r = withVolume(-1);
        for (int n = 0; n < 10; n++) {
            due("draw(1) with " + n + " drawn", r.draw(1), -3);
            due("draw(0)", r.draw(0), n);
        }
    }

    private void drawNewNumber() {
        sentence("Promise 5", "otherwise answers the new triangle's number");
        ClipRaster r = new ClipRaster();
        for (int n = 0; n < 10; n++) {
            onePixel(r, n, 2, 0);
            due("draw(" + n % 2 + ")", r.draw(n % 2), n);
            due("firstIn(" + n + ", 2)", r.firstIn(n, 2), n);
        }
        r.remove(4);
        r.remove(0);
        onePixel(r, 15, 2, 0);
        due("draw(0) after two were removed", r.draw(0), 8);
        due("firstIn(8, 2)", r.firstIn(8, 2), 15);
    }

    private void drawOrder() {
        sentence("Promise 5", IN_ORDER);
        ClipRaster r = tenWhole();
        for (int side : noSides()) {
            due("draw(" + side + ") of a full list", r.draw(side), -1);
        }
        due("draw(2) of a full list with volume 3200", r.draw(2), -2);
        due("draw(1) of a full list with volume 0", full().draw(1), -2);
        due("draw(2) of a full list with volume 0", full().draw(2), -2);
        due("draw(3) of a full list with volume 0", full().draw(3), -1);
    }

    // Promises 6 and 7

    private void removeShiftsLaterOnes() {
        sentence("Promise 6", "the later ones get numbers less by one");
        for (int drawn = 1; drawn <= 10; drawn++) {
            for (int number = 0; number < drawn; number++) {
                ClipRaster r = diagonal(drawn);
                r.remove(number);
                String then = " after remove(" + number + ") of " + drawn;
                for (int n = 0; n < drawn; n++) {
                    int want = n < number ? n : n == number ? -2 : n - 1;
                    due("owner(" + n + ", " + n + ")" + then, r.owner(n, n), want);
                }
                due("lit()" + then, r.lit(), drawn - 1);
                due("covered(" + (drawn - 1) + ")" + then, r.covered(drawn - 1), -1);
            }
        }
    }

    private void removeMissing() {
        sentence("Promise 6", "-1 if there is no such triangle");
        for (int drawn = 0; drawn <= 10; drawn++) {
            ClipRaster r = diagonal(drawn);
            for (int number : missing(drawn)) {
                due("remove(" + number + ") of " + drawn, r.remove(number), -1);
            }
            due("drawn() after it", r.drawn(), drawn);
        }
        ClipRaster r = threeLeft();
        for (int number = 3; number < 12; number++) {
            due("remove(" + number + ") of 3 left", r.remove(number), -1);
        }
    }

    private void removeHowManyAreLeft() {
        sentence("Promise 6", "otherwise answers how many are left");
        ClipRaster first = diagonal(10);
        ClipRaster last = diagonal(10);
        ClipRaster middle = diagonal(10);
        for (int left = 9; left >= 0; left--) {
            due("remove(0), the first", first.remove(0), left);
            due("remove(" + left + "), the last", last.remove(left), left);
            due("remove(" + left / 2 + "), in the middle", middle.remove(left / 2), left);
        }
        due("remove(0) of none", first.remove(0), -1);
        due("draw(0) after all were removed", first.draw(0), 0);
    }

    private void drawnHowMany() {
        sentence("Promise 7", "How many triangles are drawn.");
        ClipRaster r = new ClipRaster();
        due("drawn() at first", r.drawn(), 0);
        for (int n = 1; n <= 10; n++) {
            r.draw(0);
            due("drawn() after draw(0)", r.drawn(), n);
            r.draw(1);
            due("drawn() after a refused draw(1)", r.drawn(), n);
        }
        r.draw(0);
        due("drawn() after the eleventh draw(0)", r.drawn(), 10);
        for (int n = 9; n >= 0; n--) {
            r.remove(0);
            due("drawn() after remove(0)", r.drawn(), n);
            r.remove(n);
            due("drawn() after a refused remove", r.drawn(), n);
        }
    }

    // Promise 8

    private void ownerOffWindow() {
        sentence("Promise 8", "-1 if i or j is not in 0 .. 15");
        ClipRaster r = threeLeft();
        for (int off : offWindow()) {
            due("owner(" + off + ", 8)", r.owner(off, 8), -1);
            due("owner(8, " + off + ")", r.owner(8, off), -1);
            due("owner(" + off + ", " + off + ")", r.owner(off, off), -1);
        }
        // 16 * j + i would be a pixel.
        due("owner(16, 7)", r.owner(16, 7), -1);
        due("owner(-1, 8)", r.owner(-1, 8), -1);
        due("owner(-16, 9)", r.owner(-16, 9), -1);
        due("owner(128, 0)", r.owner(128, 0), -1);
        due("owner(272, -16)", r.owner(272, -16), -1);
        for (int line : new int[] {0, 15}) {
            due("owner(" + line + ", 0)", r.owner(line, 0), 0);
            due("owner(" + line + ", 15)", r.owner(line, 15), 0);
        }
    }

    private void ownerNobody() {
        sentence("Promise 8", "-2 if it has no owner");
        ClipRaster r = new ClipRaster();
        onePixel(r, 6, 9, 0);
        r.draw(0);
        for (int at = 0; at < 256; at++) {
            due("owner at " + at, r.owner(at % 16, at / 16), at == 9 * 16 + 6 ? 0 : -2);
        }
        due("remove(0)", r.remove(0), 0);
        due("owner(6, 9) after it", r.owner(6, 9), -2);
    }

    private void ownerOrder() {
        sentence("Promise 8", IN_ORDER);
        ClipRaster empty = new ClipRaster();
        ClipRaster patch = new ClipRaster();
        cornerPatch(patch, 0);
        patch.draw(0);
        for (int off : offWindow()) {
            due("owner(" + off + ", 0) of an empty list", empty.owner(off, 0), -1);
            due("owner(0, " + off + ") of an empty list", empty.owner(0, off), -1);
            due("owner(" + off + ", 0), which none covers", patch.owner(off, 0), -1);
            due("owner(0, " + off + "), which none covers", patch.owner(0, off), -1);
        }
    }

    // Promises 9 and 10

    private void ownedHowMany() {
        sentence("Promise 9", "How many pixels the triangle with this number owns");
        ClipRaster r = new ClipRaster();
        wholeWindow(r, 1, 2);
        r.draw(0);
        due("owned(0), all of them", r.owned(0), 256);
        onePixel(r, 15, 15, 0);
        r.draw(0);
        due("owned(0), all but one", r.owned(0), 255);
        due("owned(1), one", r.owned(1), 1);
        onePixel(r, 0, 0, 9);
        r.draw(0);
        due("owned(2), none, being behind", r.owned(2), 0);
        wholeWindow(r, 1, 4);
        r.draw(0);
        due("owned(0), none any more", r.owned(0), 0);
        due("owned(1), still one", r.owned(1), 1);
        due("owned(3), all but one", r.owned(3), 255);
    }

    private void ownedMissing() {
        sentence("Promise 9", "-1 if there is no such triangle");
        for (int drawn = 0; drawn <= 10; drawn++) {
            ClipRaster r = diagonal(drawn);
            for (int number : missing(drawn)) {
                due("owned(" + number + ") of " + drawn, r.owned(number), -1);
            }
            for (int number = 0; number < drawn; number++) {
                due("owned(" + number + ") of " + drawn, r.owned(number), 1);
            }
        }
        due("owned(3), which was removed", threeLeft().owned(3), -1);
        due("owned(10), with a draft of the whole window", tenWhole().owned(10), -1);
    }

    private void coveredHowMany() {
        sentence("Promise 10", "How many pixels the triangle with this number covers");
        ClipRaster r = new ClipRaster();
        r.draw(0);
        due("covered(0), none", r.covered(0), 0);
        onePixel(r, 0, 15, 16);
        r.draw(0);
        due("covered(1), one", r.covered(1), 1);
        wholeWindow(r, 0, 1);
        r.draw(0);
        due("covered(2), all of them", r.covered(2), 256);
        due("covered(1), though it owns none", r.covered(1), 1);
        due("owned(1)", r.owned(1), 0);
    }

    private void coveredMissing() {
        sentence("Promise 10", "-1 if there is no such triangle");
        for (int drawn = 0; drawn <= 10; drawn++) {
            ClipRaster r = diagonal(drawn);
            for (int number : missing(drawn)) {
                due("covered(" + number + ") of " + drawn, r.covered(number), -1);
            }
            for (int number = 0; number < drawn; number++) {
                due("covered(" + number + ") of " + drawn, r.covered(number), 1);
            }
        }
        due("covered(3), which was removed", threeLeft().covered(3), -1);
        due("covered(10), with a draft of the whole window", tenWhole().covered(10), -1);
    }

    // Promise 11

    private void coversOneOrZero() {
        sentence("Promise 11", "1 if the triangle covers the pixel, otherwise 0.");
        for (int corner = 0; corner < 4; corner++) {
            int column = corner % 2 * 15;
            int row = corner / 2 * 15;
            ClipRaster r = new ClipRaster();
            onePixel(r, column, row, 0);
            r.draw(0);
            for (int at = 0; at < 256; at++) {
                int want = at == 16 * row + column ? 1 : 0;
                due("covers(0, i, j) at " + at, r.covers(0, at % 16, at / 16), want);
            }
        }
    }

    private void coversMissing() {
        sentence("Promise 11", "-1 if there is no such triangle");
        for (int drawn = 0; drawn <= 10; drawn++) {
            ClipRaster r = diagonal(drawn);
            for (int number : missing(drawn)) {
                due("covers(" + number + ", 0, 0) of " + drawn, r.covers(number, 0, 0), -1);
                due("covers(" + number + ", 9, 9) of " + drawn, r.covers(number, 9, 9), -1);
            }
        }
        due("covers(3, 8, 8), which was removed", threeLeft().covers(3, 8, 8), -1);
        due("covers(10, 8, 8), with a draft of the whole window", tenWhole().covers(10, 8, 8), -1);
    }

    private void coversOffWindow() {
        sentence("Promise 11", "-2 if i or j is not in 0 .. 15");
        ClipRaster r = threeLeft();
        for (int off : offWindow()) {
            due("covers(0, " + off + ", 8)", r.covers(0, off, 8), -2);
            due("covers(0, 8, " + off + ")", r.covers(0, 8, off), -2);
            due("covers(2, " + off + ", " + off + ")", r.covers(2, off, off), -2);
        }
        // 16 * j + i would be a pixel.
        due("covers(0, 16, 7)", r.covers(0, 16, 7), -2);
        due("covers(0, -1, 8)", r.covers(0, -1, 8), -2);
        due("covers(0, 128, 0)", r.covers(0, 128, 0), -2);
        due("covers(0, 272, -16)", r.covers(0, 272, -16), -2);
        for (int line : new int[] {0, 15}) {
            due("covers(2, " + line + ", 0)", r.covers(2, line, 0), 1);
            due("covers(2, " + line + ", 15)", r.covers(2, line, 15), 1);
        }
    }

    private void coversOrder() {
        sentence("Promise 11", IN_ORDER);
        ClipRaster r = threeLeft();
        for (int number : missing(3)) {
            due("covers(" + number + ", 16, 0)", r.covers(number, 16, 0), -1);
            due("covers(" + number + ", 0, -1)", r.covers(number, 0, -1), -1);
            due("covers(" + number + ", LEAST, GREATEST)", r.covers(number, LEAST, GREATEST), -1);
        }
    }

    // Promise 12

    private void litHowMany() {
        sentence("Promise 12", "How many pixels have an owner.");
        ClipRaster r = new ClipRaster();
        due("lit() of an empty list", r.lit(), 0);
        onePixel(r, 0, 0, 16);
        due("lit() with a draft not drawn", r.lit(), 0);
        r.draw(0);
        due("lit() of one pixel", r.lit(), 1);
        onePixel(r, 15, 15, 0);
        r.draw(0);
        r.draw(0);
        due("lit() of two pixels, one of them twice", r.lit(), 2);
        wholeWindow(r, 5, 4);
        r.draw(0);
        due("lit() with one that covers none", r.lit(), 2);
        wholeWindow(r, 4, 4);
        r.draw(0);
        due("lit() of all", r.lit(), 256);
        r.remove(4);
        r.remove(0);
        due("lit() after two removals", r.lit(), 1);
        due("lit() of ten", diagonal(10).lit(), 10);
    }

    // Promises 13 and 14

    /** The one would be in column -1 of row 8, the other in column 16. */
    private static ClipRaster besideTheWindow() {
        ClipRaster r = new ClipRaster();
        onePixel(r, -1, 8, 0);
        r.draw(0);
        onePixel(r, 16, 8, 0);
        r.draw(0);
        return r;
    }

    private void firstInLeastColumn() {
        sentence("Promise 13", "The least column of a pixel of row j that the triangle covers.");
        ClipRaster r = threeLeft();
        for (int j = 0; j < 16; j++) {
            due("firstIn(2, " + j + "), the whole row", r.firstIn(2, j), 0);
        }
        r = steps();
        for (int j = 0; j < 8; j++) {
            due("firstIn(0, " + j + ")", r.firstIn(0, j), 8);
        }
        for (int i = 0; i < 16; i++) {
            ClipRaster one = new ClipRaster();
            onePixel(one, i, 15 - i, 0);
            one.draw(0);
            due("firstIn of column " + i, one.firstIn(0, 15 - i), i);
        }
    }

    private void firstInMissing() {
        sentence("Promise 13", "-1 if there is no such triangle");
        for (int drawn = 0; drawn <= 10; drawn++) {
            ClipRaster r = diagonal(drawn);
            for (int number : missing(drawn)) {
                due("firstIn(" + number + ", 0) of " + drawn, r.firstIn(number, 0), -1);
                due("firstIn(" + number + ", 9) of " + drawn, r.firstIn(number, 9), -1);
            }
        }
        due("firstIn(3, 8), which was removed", threeLeft().firstIn(3, 8), -1);
        due("firstIn(10, 8), with a draft of the whole window", tenWhole().firstIn(10, 8), -1);
    }

    private void firstInOffWindow() {
        sentence("Promise 13", "-2 if j is not in 0 .. 15");
        ClipRaster r = threeLeft();
        for (int off : offWindow()) {
            due("firstIn(0, " + off + ")", r.firstIn(0, off), -2);
            due("firstIn(2, " + off + ")", r.firstIn(2, off), -2);
        }
        due("firstIn(0, 0)", r.firstIn(0, 0), 0);
        due("firstIn(0, 15)", r.firstIn(0, 15), 0);
    }

    private void firstInEmptyRow() {
        sentence("Promise 13", "-3 if it covers no pixel of that row.");
        ClipRaster r = diagonal(10);
        for (int number = 0; number < 10; number++) {
            for (int j = 0; j < 16; j++) {
                due("firstIn(" + number + ", " + j + ")", r.firstIn(number, j), j == number ? j : -3);
            }
        }
        due("firstIn(0, 0) with volume 0", full().firstIn(0, 0), -3);
        ClipRaster beside = besideTheWindow();
        due("firstIn(0, 8), seen left of the window", beside.firstIn(0, 8), -3);
        due("firstIn(1, 8), seen right of the window", beside.firstIn(1, 8), -3);
    }

    private void firstInOrder() {
        sentence("Promise 13", IN_ORDER);
        ClipRaster r = diagonal(3);
        for (int number : missing(3)) {
            due("firstIn(" + number + ", 16)", r.firstIn(number, 16), -1);
            due("firstIn(" + number + ", -1)", r.firstIn(number, -1), -1);
        }
        for (int off : offWindow()) {
            due("firstIn(0, " + off + "), where it covers none", r.firstIn(0, off), -2);
            due("firstIn(0, " + off + ") with volume 0", full().firstIn(0, off), -2);
        }
    }

    private void lastInGreatestColumn() {
        sentence("Promise 14", "The greatest column of a pixel of row j that the triangle covers");
        ClipRaster r = threeLeft();
        for (int j = 0; j < 16; j++) {
            due("lastIn(2, " + j + "), the whole row", r.lastIn(2, j), 15);
        }
        r = steps();
        for (int j = 0; j < 8; j++) {
            due("lastIn(0, " + j + ")", r.lastIn(0, j), 15 - j);
        }
        for (int i = 0; i < 16; i++) {
            ClipRaster one = new ClipRaster();
            onePixel(one, i, 15 - i, 0);
            one.draw(0);
            due("lastIn of column " + i, one.lastIn(0, 15 - i), i);
        }
    }

    private void lastInMissing() {
        sentence("Promise 14", "with the same refusals");
        for (int drawn = 0; drawn <= 10; drawn++) {
            ClipRaster r = diagonal(drawn);
            for (int number : missing(drawn)) {
                due("lastIn(" + number + ", 0) of " + drawn, r.lastIn(number, 0), -1);
                due("lastIn(" + number + ", 9) of " + drawn, r.lastIn(number, 9), -1);
            }
        }
        due("lastIn(3, 8), which was removed", threeLeft().lastIn(3, 8), -1);
        due("lastIn(10, 8), with a draft of the whole window", tenWhole().lastIn(10, 8), -1);
    }

    private void lastInOffWindow() {
        sentence("Promise 14", "with the same refusals");
        ClipRaster r = threeLeft();
        for (int off : offWindow()) {
            due("lastIn(0, " + off + ")", r.lastIn(0, off), -2);
            due("lastIn(2, " + off + ")", r.lastIn(2, off), -2);
        }
        due("lastIn(0, 0)", r.lastIn(0, 0), 15);
        due("lastIn(0, 15)", r.lastIn(0, 15), 15);
    }

    private void lastInEmptyRow() {
        sentence("Promise 14", "with the same refusals");
        ClipRaster r = diagonal(10);
        for (int number = 0; number < 10; number++) {
            for (int j = 0; j < 16; j++) {
                due("lastIn(" + number + ", " + j + ")", r.lastIn(number, j), j == number ? j : -3);
            }
        }
        due("lastIn(0, 0) with volume 0", full().lastIn(0, 0), -3);
        ClipRaster beside = besideTheWindow();
        due("lastIn(0, 8), seen left of the window", beside.lastIn(0, 8), -3);
        due("lastIn(1, 8), seen right of the window", beside.lastIn(1, 8), -3);
    }

    private void lastInOrder() {
        sentence("Promise 14", IN_ORDER);
        ClipRaster r = diagonal(3);
        for (int number : missing(3)) {
            due("lastIn(" + number + ", 16)", r.lastIn(number, 16), -1);
            due("lastIn(" + number + ", -1)", r.lastIn(number, -1), -1);
        }
        for (int off : offWindow()) {
            due("lastIn(0, " + off + "), where it covers none", r.lastIn(0, off), -2);
            due("lastIn(0, " + off + ") with volume 0", full().lastIn(0, off), -2);
        }
    }

    // Promise 15

    /** Depth 1/2 in 0, 1/4 in 1 and 2/4 in 2, all over the window; 3 is the pixel (8, 8) alone. */
    private static ClipRaster layers() {
        ClipRaster r = new ClipRaster();
        wholeWindow(r, 1, 2);
        r.draw(0);
        wholeWindow(r, 1, 4);
        r.draw(0);
        wholeWindow(r, 2, 4);
        r.draw(0);
        onePixel(r, 8, 8, 8);
        r.draw(0);
        return r;
    }

    private void nearerOneTwoOrZero() {
        sentence("Promise 15", "1 if the first triangle has the lesser depth at the pixel, "
            + "2 if the second has, 0 if the depths are the same.");
        ClipRaster r = layers();
        for (int at : new int[] {0, 15, 16, 136, 240, 255}) {
            due("nearer(1, 0, " + at + ")", r.nearer(1, 0, at), 1);
            due("nearer(0, 1, " + at + ")", r.nearer(0, 1, at), 2);
            due("nearer(0, 2, " + at + ")", r.nearer(0, 2, at), 0);
            due("nearer(2, 0, " + at + ")", r.nearer(2, 0, at), 0);
            due("nearer(1, 1, " + at + ")", r.nearer(1, 1, at), 0);
        }
        due("nearer(1, 3, 136)", r.nearer(1, 3, 136), 1);
        due("nearer(3, 1, 136)", r.nearer(3, 1, 136), 2);
        due("nearer(3, 2, 136)", r.nearer(3, 2, 136), 0);
    }

    private void nearerMissing() {
        sentence("Promise 15", "-1 if there is no triangle with number a or none with number b");
        ClipRaster r = layers();
        for (int number : missing(4)) {
            due("nearer(" + number + ", 0, 136)", r.nearer(number, 0, 136), -1);
            due("nearer(0, " + number + ", 136)", r.nearer(0, number, 136), -1);
            due("nearer(" + number + ", " + number + ", 136)", r.nearer(number, number, 136), -1);
        }
        due("nearer(0, 0, 136) of an empty list", new ClipRaster().nearer(0, 0, 136), -1);
        due("nearer(3, 0, 136), which was removed", threeLeft().nearer(3, 0, 136), -1);
        due("nearer(0, 3, 136), which was removed", threeLeft().nearer(0, 3, 136), -1);
        due("nearer(10, 0, 136), with a draft", tenWhole().nearer(10, 0, 136), -1);
        due("nearer(0, 10, 136), with a draft", tenWhole().nearer(0, 10, 136), -1);
        due("nearer(9, 0, 136)", tenWhole().nearer(9, 0, 136), 0);
    }

    private void nearerOffWindow() {
        sentence("Promise 15", "-2 if i or j is not in 0 .. 15");
        ClipRaster r = layers();
        for (int i = 0; i < 16; i++) {
            due("nearer(0, 1, at) in row -1", r.nearer(0, 1, 16 * -1 + i), -2);
            due("nearer(0, 1, at) in row 0", r.nearer(0, 1, i), 2);
            due("nearer(0, 1, at) in row 15", r.nearer(0, 1, 16 * 15 + i), 2);
            due("nearer(0, 1, at) in row 16", r.nearer(0, 1, 16 * 16 + i), -2);
        }
        // Each number 0 .. 255 is a pixel: what would be column 16 is column 0 of the next row.
        for (int j = 0; j < 15; j++) {
            due("nearer(0, 1, 16 * " + j + " + 16)", r.nearer(0, 1, 16 * j + 16), 2);
        }
    }

    private void nearerOffPixels() {
        sentence("Promise 15", "0 .. 255; an at outside is the case of -2.");
        ClipRaster r = layers();
        for (int at : offPixels()) {
            due("nearer(0, 1, " + at + ")", r.nearer(0, 1, at), -2);
        }
        due("nearer(0, 1, 0)", r.nearer(0, 1, 0), 2);
        due("nearer(0, 1, 255)", r.nearer(0, 1, 255), 2);
    }

    private void nearerNotCovered() {
        sentence("Promise 15", "-3 if one of the two does not cover the pixel.");
        ClipRaster r = layers();
        for (int at : new int[] {0, 15, 119, 120, 135, 137, 152, 240, 255}) {
            due("nearer(3, 0, " + at + ")", r.nearer(3, 0, at), -3);
            due("nearer(0, 3, " + at + ")", r.nearer(0, 3, at), -3);
            due("nearer(3, 3, " + at + "), neither covers", r.nearer(3, 3, at), -3);
        }
        wholeWindow(r, 5, 4);
        r.draw(0);
        due("nearer(0, 4, 136), too far", r.nearer(0, 4, 136), -3);
        wholeWindow(r, -1, 4);
        r.draw(0);
        due("nearer(5, 0, 136), too near", r.nearer(5, 0, 136), -3);
        due("nearer(4, 5, 136), neither", r.nearer(4, 5, 136), -3);
        due("nearer(0, 0, 136) with volume 0", full().nearer(0, 0, 136), -3);
    }

    private void nearerOnePixelNumber() {
        sentence("Promise 15", "Pixels are given as one number at = 16 * j + i");
        for (int at = 0; at < 256; at++) {
            ClipRaster r = new ClipRaster();
            onePixel(r, at % 16, at / 16, 3);
            r.draw(0);
            wholeWindow(r, 1, 4);
            r.draw(0);
            due("nearer(0, 1, " + at + ")", r.nearer(0, 1, at), 1);
            int turned = at % 16 * 16 + at / 16;
            due("nearer(0, 1, " + turned + ")", r.nearer(0, 1, turned), turned == at ? 1 : -3);
        }
    }

    private void nearerOrder() {
        sentence("Promise 15", IN_ORDER);
        ClipRaster r = layers();
        for (int number : missing(4)) {
            due("nearer(" + number + ", 0, 256)", r.nearer(number, 0, 256), -1);
            due("nearer(0, " + number + ", -1)", r.nearer(0, number, -1), -1);
            due("nearer(3, " + number + ", 0), where 3 is not", r.nearer(3, number, 0), -1);
            due("nearer(" + number + ", 3, 0), where 3 is not", r.nearer(number, 3, 0), -1);
        }
        for (int at : offPixels()) {
            due("nearer(3, 0, " + at + "), where 3 is not", r.nearer(3, 0, at), -2);
            due("nearer(0, 3, " + at + "), where 3 is not", r.nearer(0, 3, at), -2);
            due("nearer(0, 0, " + at + ") with volume 0", full().nearer(0, 0, at), -2);
        }
    }
}
