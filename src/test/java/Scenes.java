/** What the tests worked out by hand share: triangles, lists, and arguments that don't fit. */
class Scenes {
    static final int LEAST = Integer.MIN_VALUE;
    static final int GREATEST = Integer.MAX_VALUE;

    final Check check = new Check();

    final void sentence(String where, String words) {
        check.sentence(where, words);
    }

    final void due(String call, int got, int want) {
        check.due(call, got, want);
    }

    final void runAll(Runnable... tests) {
        for (Runnable test : tests) {
            check.run(test);
        }
        check.finish();
    }

    /** Sets corner k of the draft. */
    static void corner(ClipRaster r, int k, int x, int y, int z, int w) {
        r.place(k, x, y);
        r.depth(k, z, w);
    }

    /** Sees the whole window while w is in 1 .. 4; its depth is z / w everywhere. */
    static void wholeWindow(ClipRaster r, int z, int w) {
        corner(r, 0, -20, -20, z, w);
        corner(r, 1, 20, -20, z, w);
        corner(r, 2, 0, 20, z, w);
    }

    /** Its corners are the centres of pixels (8, 8), (15, 8) and (8, 15); it covers 36 pixels. */
    static void cornerPatch(ClipRaster r, int z) {
        corner(r, 0, 1, 1, z, 16);
        corner(r, 1, 15, 1, z, 16);
        corner(r, 2, 1, 15, z, 16);
    }

    /** Covers the one pixel in column i and row j, and its depth is z / 16. */
    static void onePixel(ClipRaster r, int i, int j, int z) {
        int px = 2 * i - 15;
        int py = 2 * j - 15;
        corner(r, 0, px - 1, py - 1, z, 16);
        corner(r, 1, px + 1, py - 1, z, 16);
        corner(r, 2, px, py + 1, z, 16);
    }

    /** Draws one that covers column 8 to column 15 - j of row j, and nothing from row 8 on. */
    static ClipRaster steps() {
        ClipRaster r = new ClipRaster();
        corner(r, 0, -20, -20, -20, 16);
        corner(r, 1, 20, -20, 20, 16);
        corner(r, 2, -20, 20, -20, 16);
        r.draw(0);
        wholeWindow(r, 0, 1);
        r.draw(0);
        r.place(2, 0, -20);
        r.draw(0);
        return r;
    }

    /** Has this many triangles; the nth covers the one pixel in column n and row n. */
    static ClipRaster diagonal(int triangles) {
        ClipRaster r = new ClipRaster();
        for (int n = 0; n < triangles; n++) {
            onePixel(r, n, n, 8);
            r.draw(0);
        }
        return r;
    }

    static ClipRaster full() {
        ClipRaster r = new ClipRaster();
        for (int n = 0; n < 10; n++) {
            r.draw(0);
        }
        return r;
    }

    /**
     * Numbers of no triangle while this many are drawn: just outside, past the capacity, and those
     * that come back among the small ones when taken times 3, or cut to 16 or to 8 bits.
     */
    static int[] missing(int drawn) {
        return new int[] {
            LEAST, LEAST + 1, -1431655765, -65536, -256, -11, -10, -2, -1, drawn, drawn + 1, 10, 11,
            12, 256, 65536, 1431655766, GREATEST - 1, GREATEST};
    }

    /** No columns and no rows; twice LEAST + 8 is the same int as twice 8. */
    static int[] offWindow() {
        return new int[] {
            LEAST, LEAST + 8, -65528, -248, -16, -8, -2, -1, 16, 17, 24, 31, 32, 256 + 8, 65536 + 8,
            (1 << 28) + 8, GREATEST - 8, GREATEST};
    }

    /** No pixels; 136 is the pixel in column 8 and row 8. */
    static int[] offPixels() {
        return new int[] {
            LEAST, LEAST + 136, 136 - 65536, 136 - 256, -136, -16, -2, -1, 256, 257, 256 + 136, 511,
            512, 65536 + 136, (1 << 28) + 136, GREATEST - 1, GREATEST};
    }

    static int[] noCorners() {
        return new int[] {
            LEAST, LEAST + 1, -256, -30, -3, -2, -1, 3, 4, 5, 30, 33, 256, 257, 65536, 1 << 30,
            GREATEST - 1, GREATEST};
    }

    static int[] noSides() {
        return new int[] {
            LEAST, LEAST + 1, LEAST + 2, -256, -3, -2, -1, 3, 4, 5, 256, 257, 65537, GREATEST - 1,
            GREATEST};
    }

    /** Numbers that no corner may have. */
    static int[] offRange() {
        return new int[] {
            LEAST, LEAST + 1, -65536, -256, -22, -21, 21, 22, 256, 65536, GREATEST - 1, GREATEST};
    }
}
