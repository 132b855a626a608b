/**
 * Triangles given in homogeneous coordinates, seen through a window of 16 by 16 pixels with exact
 * depth.
 *
 * <p>The corners (x, y, w) of a triangle and the centre (px, py, 16) of a pixel are rows of three
 * numbers. By Cramer's rule the centre, taken |volume| times, is the sum of the corners, each taken
 * as often as its weight, the determinant in which the centre stands in that corner's place. With
 * these weights W is 16 * |volume|, so that Z alone tells the depth, and no division is needed.
 */
public final class ClipRaster {
    private static final int CORNERS = 3;
    private static final int GREATEST_NUMBER = 20;
    private static final int GREATEST_SIDE = 2;
    private static final int CAPACITY = 10;
    private static final int WIDTH = 16;
    private static final int PIXELS = WIDTH * WIDTH;

    /** The draft lies behind the list, so that it is read and copied as a drawn triangle is. */
    private static final int DRAFT = CAPACITY;
    private static final int ALL_CORNERS = (CAPACITY + 1) * CORNERS;

    /** No covering triangle has a Z below 0, so this number is free to say that it doesn't cover. */
    private static final int UNCOVERED = -1;
    private static final int NOBODY = -2;
    private static final int EMPTY_ROW = -3;

    private final int[] xs = new int[ALL_CORNERS];
    private final int[] ys = new int[ALL_CORNERS];
    private final int[] zs = new int[ALL_CORNERS];
    private final int[] ws = new int[ALL_CORNERS];
    private int count;

    public ClipRaster() {
        count = 0;
    }

    public int place(int k, int x, int y) {
        if (!isCorner(k)) {
            return -1;
        }
        if (!isAllowed(x) || !isAllowed(y)) {
            return -2;
        }
        xs[DRAFT * CORNERS + k] = x;
        ys[DRAFT * CORNERS + k] = y;
        return 0;
    }

    public int depth(int k, int z, int w) {
        if (!isCorner(k)) {
            return -1;
        }
        if (!isAllowed(z) || !isAllowed(w)) {
            return -2;
        }
        zs[DRAFT * CORNERS + k] = z;
        ws[DRAFT * CORNERS + k] = w;
        return 0;
    }

    public int volume() {
        return volumeOf(DRAFT);
    }

    public int draw(int side) {
        if (side < 0 || side > GREATEST_SIDE) {
            return -1;
        }
        if (count >= CAPACITY) {
            return -2;
        }
        int draftVolume = volumeOf(DRAFT);
        if (side == 1 && draftVolume <= 0 || side == 2 && draftVolume >= 0) {
            return -3;
        }
        copyTriangle(DRAFT, count);
        count++;
        return count - 1;
    }

    public int remove(int number) {
        if (!isDrawn(number)) {
            return -1;
        }
        for (int t = number + 1; t < count; t++) {
            copyTriangle(t, t - 1);
        }
        count--;
        return count;
    }

    public int drawn() {
        return count;
    }

    public int owner(int i, int j) {
        if (!isPixel(i, j)) {
            return -1;
        }
        return ownerAt(i, j);
    }

    public int owned(int number) {
        if (!isDrawn(number)) {
            return -1;
        }
        int pixels = 0;
        for (int at = 0; at < PIXELS; at++) {
            if (ownerAt(at % WIDTH, at / WIDTH) == number) {
                pixels++;
            }
        }
        return pixels;
    }

    public int covered(int number) {
        if (!isDrawn(number)) {
            return -1;
        }
        int pixels = 0;
        for (int at = 0; at < PIXELS; at++) {
            if (scaledDepth(number, at % WIDTH, at / WIDTH) != UNCOVERED) {
                pixels++;
            }
        }
        return pixels;
    }

    public int covers(int number, int i, int j) {
        if (!isDrawn(number)) {
            return -1;
        }
        if (!isPixel(i, j)) {
            return -2;
        }
        return scaledDepth(number, i, j) != UNCOVERED ? 1 : 0;
    }

    public int lit() {
        int pixels = 0;
        for (int at = 0; at < PIXELS; at++) {
            if (ownerAt(at % WIDTH, at / WIDTH) != NOBODY) {
                pixels++;
            }
        }
        return pixels;
    }

    public int firstIn(int number, int j) {
        if (!isDrawn(number)) {
            return -1;
        }
        if (!isInWindow(j)) {
            return -2;
        }
        for (int i = 0; i < WIDTH; i++) {
            if (scaledDepth(number, i, j) != UNCOVERED) {
                return i;
            }
        }
        return EMPTY_ROW;
    }

    public int lastIn(int number, int j) {
        if (!isDrawn(number)) {
            return -1;
        }
        if (!isInWindow(j)) {
            return -2;
        }
        for (int i = WIDTH - 1; i >= 0; i--) {
            if (scaledDepth(number, i, j) != UNCOVERED) {
                return i;
            }
        }
        return EMPTY_ROW;
    }

    public int nearer(int a, int b, int at) {
        if (!isDrawn(a) || !isDrawn(b)) {
            return -1;
        }
        if (at < 0 || at >= PIXELS) {
            return -2;
        }
        int depthA = scaledDepth(a, at % WIDTH, at / WIDTH);
        int depthB = scaledDepth(b, at % WIDTH, at / WIDTH);
        if (depthA == UNCOVERED || depthB == UNCOVERED) {
            return -3;
        }
        int sizeA = sizeOf(a);
        int sizeB = sizeOf(b);
        if (isLess(depthA, sizeA, depthB, sizeB)) {
            return 1;
        }
        return isLess(depthB, sizeB, depthA, sizeA) ? 2 : 0;
    }

    private static boolean isCorner(int k) {
        return k >= 0 && k < CORNERS;
    }

    private static boolean isAllowed(int value) {
        return value >= -GREATEST_NUMBER && value <= GREATEST_NUMBER;
    }

    private static boolean isInWindow(int line) {
        return line >= 0 && line < WIDTH;
    }

    private static boolean isPixel(int i, int j) {
        return isInWindow(i) && isInWindow(j);
    }

    private boolean isDrawn(int number) {
        return number >= 0 && number < count;
    }

    private void copyTriangle(int from, int to) {
        for (int k = 0; k < CORNERS; k++) {
            int source = from * CORNERS + k;
            int target = to * CORNERS + k;
            xs[target] = xs[source];
            ys[target] = ys[source];
            zs[target] = zs[source];
            ws[target] = ws[source];
        }
    }

    /** The determinant with the rows (x, y, w), corner m and corner n. */
    private int determinant(int x, int y, int w, int m, int n) {
        return x * (ys[m] * ws[n] - ys[n] * ws[m])
            - y * (xs[m] * ws[n] - xs[n] * ws[m])
            + w * (xs[m] * ys[n] - xs[n] * ys[m]);
    }

    private int volumeOf(int triangle) {
        int first = triangle * CORNERS;
        return determinant(xs[first], ys[first], ws[first], first + 1, first + 2);
    }

    private int sizeOf(int triangle) {
        int signed = volumeOf(triangle);
        return signed < 0 ? -signed : signed;
    }

    /** Z at the pixel where W is 16 * |volume|, or UNCOVERED if the triangle doesn't cover it. */
    private int scaledDepth(int triangle, int i, int j) {
        int signed = volumeOf(triangle);
        if (signed == 0) {
            return UNCOVERED;
        }
        int sign = signed < 0 ? -1 : 1;
        int px = 2 * i - (WIDTH - 1);
        int py = 2 * j - (WIDTH - 1);
        int first = triangle * CORNERS;
        int z = 0;
        for (int k = 0; k < CORNERS; k++) {
            // Turning the corners round keeps the determinant, so the centre can stand first.
            int next = first + (k + 1) % CORNERS;
            int last = first + (k + 2) % CORNERS;
            int weight = sign * determinant(px, py, WIDTH, next, last);
            if (weight < 0) {
                return UNCOVERED;
            }
            z += weight * zs[first + k];
        }
        return z < 0 || z > WIDTH * sign * signed ? UNCOVERED : z;
    }

    /** Whether depthA / sizeA is less than depthB / sizeB; the products outgrow an int. */
    private static boolean isLess(int depthA, int sizeA, int depthB, int sizeB) {
        return (long) depthA * sizeB < (long) depthB * sizeA;
    }

    private int ownerAt(int i, int j) {
        int best = NOBODY;
        int bestDepth = 0;
        int bestSize = 0;
        for (int t = 0; t < count; t++) {
            int depthHere = scaledDepth(t, i, j);
            if (depthHere == UNCOVERED) {
                continue;
            }
            int size = sizeOf(t);
            // Only a lesser depth displaces, so that of equals the least number stays.
            if (best == NOBODY || isLess(depthHere, size, bestDepth, bestSize)) {
                best = t;
                bestDepth = depthHere;
                bestSize = size;
            }
        }
        return best;
    }
}
