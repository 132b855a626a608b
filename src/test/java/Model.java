import java.util.ArrayList;
import java.util.List;

/**
 * The document said a second time, in another way: it eliminates with exact fractions where the
 * class takes determinants, and keeps the depth of every pixel from the drawing on.
 */
final class Model {
    private static final int PIXELS = 256;

    /** Corner k has x, y, z, w at draft[k]. */
    private final int[][] draft = new int[3][4];

    /** For each drawn triangle the depth at every pixel, null where it doesn't cover. */
    private final List<Fraction[]> list = new ArrayList<>();

    int place(int k, int x, int y) {
        return set(k, 0, x, 1, y);
    }

    int depth(int k, int z, int w) {
        return set(k, 2, z, 3, w);
    }

    private int set(int k, int slotA, int a, int slotB, int b) {
        if (outside(k, 0, 2)) {
            return -1;
        }
        if (outside(a, -20, 20) || outside(b, -20, 20)) {
            return -2;
        }
        draft[k][slotA] = a;
        draft[k][slotB] = b;
        return 0;
    }

    int volume() {
        int x0 = draft[0][0], y0 = draft[0][1], w0 = draft[0][3];
        int x1 = draft[1][0], y1 = draft[1][1], w1 = draft[1][3];
        int x2 = draft[2][0], y2 = draft[2][1], w2 = draft[2][3];
        return x0 * (y1 * w2 - y2 * w1) - y0 * (x1 * w2 - x2 * w1) + w0 * (x1 * y2 - x2 * y1);
    }

    int draw(int side) {
        if (outside(side, 0, 2)) {
            return -1;
        }
        if (list.size() == 10) {
            return -2;
        }
        boolean fits = side == 0 || (side == 1 ? volume() > 0 : volume() < 0);
        if (!fits) {
            return -3;
        }
        list.add(depthsOfDraft());
        return list.size() - 1;
    }

    int remove(int number) {
        if (isMissing(number)) {
            return -1;
        }
        list.remove(number);
        return list.size();
    }

    int drawn() {
        return list.size();
    }

    int owner(int i, int j) {
        return isOff(i, j) ? -1 : ownerAt(16 * j + i);
    }

    int owned(int number) {
        if (isMissing(number)) {
            return -1;
        }
        int pixels = 0;
        for (int at = 0; at < PIXELS; at++) {
            pixels += ownerAt(at) == number ? 1 : 0;
        }
        return pixels;
    }

    int covered(int number) {
        if (isMissing(number)) {
            return -1;
        }
        int pixels = 0;
        for (Fraction depth : list.get(number)) {
            pixels += depth != null ? 1 : 0;
        }
        return pixels;
    }

    int covers(int number, int i, int j) {
        if (isMissing(number)) {
            return -1;
        }
        if (isOff(i, j)) {
            return -2;
        }
        return list.get(number)[16 * j + i] != null ? 1 : 0;
    }

    int lit() {
        int pixels = 0;
        for (int at = 0; at < PIXELS; at++) {
            pixels += ownerAt(at) >= 0 ? 1 : 0;
        }
        return pixels;
    }

    int firstIn(int number, int j) {
        return endOfRow(number, j, true);
    }

    int lastIn(int number, int j) {
        return endOfRow(number, j, false);
    }

    private int endOfRow(int number, int j, boolean first) {
        if (isMissing(number)) {
            return -1;
        }
        if (outside(j, 0, 15)) {
            return -2;
        }
        int found = -3;
        for (int i = 0; i < 16; i++) {
            if (list.get(number)[16 * j + i] != null && !(first && found >= 0)) {
                found = i;
            }
        }
        return found;
    }

    int nearer(int a, int b, int at) {
        if (isMissing(a) || isMissing(b)) {
            return -1;
        }
        if (outside(at, 0, PIXELS - 1)) {
            return -2;
        }
        Fraction depthA = list.get(a)[at];
        Fraction depthB = list.get(b)[at];
        if (depthA == null || depthB == null) {
            return -3;
        }
        int order = depthA.compareTo(depthB);
        return order < 0 ? 1 : order > 0 ? 2 : 0;
    }

    private static boolean outside(int value, int least, int greatest) {
        return value < least || value > greatest;
    }

    private static boolean isOff(int i, int j) {
        return outside(i, 0, 15) || outside(j, 0, 15);
    }

    private boolean isMissing(int number) {
        return outside(number, 0, list.size() - 1);
    }

    private int ownerAt(int at) {
        int best = -2;
        for (int number = list.size() - 1; number >= 0; number--) {
            Fraction depth = list.get(number)[at];
            if (depth != null && (best < 0 || !list.get(best)[at].isBelow(depth))) {
                best = number;
            }
        }
        return best;
    }

    private Fraction[] depthsOfDraft() {
        Fraction[] depths = new Fraction[PIXELS];
        Fraction[][] inverse = inverseOfDraft();
        if (inverse == null) {
            return depths;
        }
        for (int at = 0; at < PIXELS; at++) {
            depths[at] = depthOfDraft(inverse, 2 * (at % 16) - 15, 2 * (at / 16) - 15);
        }
        return depths;
    }

    /** The depth where W = 1, X = px / 16 and Y = py / 16; null if the draft isn't seen there. */
    private Fraction depthOfDraft(Fraction[][] inverse, int px, int py) {
        Fraction[] centre = {Fraction.of(px, 16), Fraction.of(py, 16), Fraction.ONE};
        Fraction z = Fraction.ZERO;
        for (int k = 0; k < 3; k++) {
            Fraction share = Fraction.ZERO;
            for (int n = 0; n < 3; n++) {
                share = share.plus(inverse[k][n].times(centre[n]));
            }
            if (share.isBelow(Fraction.ZERO)) {
                return null;
            }
            z = z.plus(share.times(Fraction.of(draft[k][2], 1)));
        }
        return z.isBelow(Fraction.ZERO) || Fraction.ONE.isBelow(z) ? null : z;
    }

    /** Inverts the matrix whose columns are the corners (x, y, w); null if it has no inverse. */
    private Fraction[][] inverseOfDraft() {
        Fraction[][] rows = new Fraction[3][6];
        for (int k = 0; k < 3; k++) {
            rows[0][k] = Fraction.of(draft[k][0], 1);
            rows[1][k] = Fraction.of(draft[k][1], 1);
            rows[2][k] = Fraction.of(draft[k][3], 1);
            for (int row = 0; row < 3; row++) {
                rows[row][3 + k] = row == k ? Fraction.ONE : Fraction.ZERO;
            }
        }
        for (int column = 0; column < 3; column++) {
            if (!eliminate(rows, column)) {
                return null;
            }
        }
        Fraction[][] inverse = new Fraction[3][3];
        for (int row = 0; row < 3; row++) {
            System.arraycopy(rows[row], 3, inverse[row], 0, 3);
        }
        return inverse;
    }

    private static boolean eliminate(Fraction[][] rows, int column) {
        int pivot = column;
        while (pivot < 3 && rows[pivot][column].isZero()) {
            pivot++;
        }
        if (pivot == 3) {
            return false;
        }
        Fraction[] chosen = rows[pivot];
        rows[pivot] = rows[column];
        rows[column] = chosen;
        Fraction lead = chosen[column];
        for (int n = 0; n < 6; n++) {
            chosen[n] = chosen[n].over(lead);
        }
        for (int row = 0; row < 3; row++) {
            Fraction factor = rows[row][column];
            for (int n = 0; n < 6 && row != column; n++) {
                rows[row][n] = rows[row][n].minus(factor.times(chosen[n]));
            }
        }
        return true;
    }
}
