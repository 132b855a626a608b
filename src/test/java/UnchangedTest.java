import java.util.ArrayList;
import java.util.List;
import java.util.function.Supplier;
import java.util.function.ToIntFunction;

/**
 * "No question changes anything. A refused call changes nothing.": each such call is made on an
 * object of which all that can be seen is then compared with an object that it was not made on.
 */
public final class UnchangedTest extends Scenes {
    private record Call(String name, ToIntFunction<ClipRaster> made) {}

    private record State(String name, Supplier<ClipRaster> object) {}

    private final List<Call> calls = new ArrayList<>();

    public static void main(String[] args) {
        UnchangedTest test = new UnchangedTest();
        test.runAll(
            test::questionsChangeNothing, test::refusedPlace, test::refusedDepth, test::refusedDraw,
            test::refusedRemove, test::refusedQuestions);
    }

    private void call(String name, ToIntFunction<ClipRaster> made) {
        calls.add(new Call(name, made));
    }

    /** All numbers differ from 0 and from those of the list, and the volume is above 0. */
    private static void setDraft(ClipRaster r) {
        corner(r, 0, -10, -9, 4, 15);
        corner(r, 1, 12, -6, 8, 16);
        corner(r, 2, 1, 14, 11, 17);
    }

    private static ClipRaster empty() {
        ClipRaster r = new ClipRaster();
        setDraft(r);
        return r;
    }

    private static ClipRaster some() {
        ClipRaster r = steps();
        cornerPatch(r, 3);
        r.draw(0);
        r.remove(1);
        setDraft(r);
        return r;
    }

    private static ClipRaster tenDrawn() {
        ClipRaster r = diagonal(8);
        cornerPatch(r, 3);
        r.draw(0);
        wholeWindow(r, 1, 2);
        r.draw(0);
        setDraft(r);
        return r;
    }

    private static final State EMPTY = new State("an empty list", UnchangedTest::empty);
    private static final State SOME = new State("three drawn", UnchangedTest::some);
    private static final State FULL = new State("a full list", UnchangedTest::tenDrawn);

    /** What can be seen of the draft and of the list, but for the owners. */
    private static List<Integer> list(ClipRaster r) {
        List<Integer> seen = new ArrayList<>(List.of(r.volume(), r.drawn(), r.lit()));
        for (int number = 0; number < 10; number++) {
            seen.add(r.covered(number));
            seen.add(r.owned(number));
            for (int j = 0; j < 16; j++) {
                seen.add(r.firstIn(number, j));
                seen.add(r.lastIn(number, j));
            }
        }
        return seen;
    }

    private static List<Integer> owners(ClipRaster r) {
        List<Integer> seen = new ArrayList<>();
        for (int at = 0; at < 256; at++) {
            seen.add(r.owner(at % 16, at / 16));
        }
        return seen;
    }

    /** How the draft compares, drawn as it is, with one that is set anew to what it should be. */
    private static List<Integer> draft(ClipRaster r) {
        List<Integer> seen = new ArrayList<>();
        for (int n = 0; n < 10 && r.drawn() > 8; n++) {
            seen.add(r.remove(0));
        }
        int asItIs = r.draw(0);
        setDraft(r);
        int asItShould = r.draw(0);
        seen.addAll(List.of(asItIs, asItShould, r.covered(asItIs)));
        for (int at = 0; at < 256; at++) {
            seen.add(r.nearer(asItIs, asItShould, at));
        }
        return seen;
    }

    private static ClipRaster after(Call call, State state) {
        ClipRaster r = state.object().get();
        call.made().applyAsInt(r);
        return r;
    }

    private void looksTheSame(Call call, State state) {
        String then = " after " + call.name() + " with " + state.name();
        Supplier<ClipRaster> plain = state.object();
        boolean sameList = list(after(call, state)).equals(list(plain.get()));
        boolean sameOwners = owners(after(call, state)).equals(owners(plain.get()));
        boolean sameDraft = draft(after(call, state)).equals(draft(plain.get()));
        due("the list and the volume are the same" + then, sameList ? 1 : 0, 1);
        due("the owners are the same" + then, sameOwners ? 1 : 0, 1);
        due("the draft is the same" + then, sameDraft ? 1 : 0, 1);
    }

    /** Makes the calls that were named since the last time; each must be refused with want. */
    private void refused(int want, State... states) {
        for (Call call : calls) {
            for (State state : states) {
                int got = call.made().applyAsInt(state.object().get());
                due(call.name() + " with " + state.name(), got, want);
                looksTheSame(call, state);
            }
        }
        calls.clear();
    }

    private void questionsChangeNothing() {
        sentence("Terms", "No question changes anything.");
        call("volume()", ClipRaster::volume);
        call("drawn()", ClipRaster::drawn);
        call("lit()", ClipRaster::lit);
        for (int line : new int[] {0, 3, 8, 15}) {
            call("owner(" + line + ", 3)", r -> r.owner(line, 3));
            for (int number : new int[] {0, 2, 8, 9}) {
                call("firstIn(" + number + ", " + line + ")", r -> r.firstIn(number, line));
                call("lastIn(" + number + ", " + line + ")", r -> r.lastIn(number, line));
                call("covers(" + number + ", 8, " + line + ")", r -> r.covers(number, 8, line));
            }
        }
        for (int number = 0; number < 10; number++) {
            int n = number;
            call("owned(" + n + ")", r -> r.owned(n));
            call("covered(" + n + ")", r -> r.covered(n));
            call("nearer(" + n + ", 9, " + 17 * n + ")", r -> r.nearer(n, 9, 17 * n));
            call("nearer(2, " + n + ", 136)", r -> r.nearer(2, n, 136));
        }
        for (Call call : calls) {
            looksTheSame(call, EMPTY);
            looksTheSame(call, SOME);
            looksTheSame(call, FULL);
        }
        calls.clear();
    }

    private void refusedPlace() {
        sentence("Terms", "A refused call changes nothing.");
        for (int k : noCorners()) {
            call("place(" + k + ", 7, 5)", r -> r.place(k, 7, 5));
        }
        refused(-1, EMPTY, SOME, FULL);
        for (int off : offRange()) {
            for (int k = 0; k < 3; k++) {
                int n = k;
                call("place(" + n + ", " + off + ", 7)", r -> r.place(n, off, 7));
                call("place(" + n + ", 7, " + off + ")", r -> r.place(n, 7, off));
            }
        }
        refused(-2, EMPTY, SOME);
    }

    private void refusedDepth() {
        sentence("Terms", "A refused call changes nothing.");
        for (int k : noCorners()) {
            call("depth(" + k + ", 7, 5)", r -> r.depth(k, 7, 5));
        }
        refused(-1, EMPTY, SOME, FULL);
        for (int off : offRange()) {
            for (int k = 0; k < 3; k++) {
                int n = k;
                call("depth(" + n + ", " + off + ", 7)", r -> r.depth(n, off, 7));
                call("depth(" + n + ", 7, " + off + ")", r -> r.depth(n, 7, off));
            }
        }
        refused(-2, EMPTY, SOME);
    }

    private void refusedDraw() {
        sentence("Terms", "A refused call changes nothing.");
        for (int side : noSides()) {
            call("draw(" + side + ")", r -> r.draw(side));
        }
        refused(-1, EMPTY, SOME, FULL);
        for (int n = 0; n <= 2; n++) {
            int side = n;
            call("draw(" + side + ")", r -> r.draw(side));
        }
        refused(-2, FULL);
        call("draw(2)", r -> r.draw(2));
        refused(-3, EMPTY, SOME);
    }

    private void refusedRemove() {
        sentence("Terms", "A refused call changes nothing.");
        removeAll(missing(0), EMPTY);
        removeAll(missing(3), SOME);
        removeAll(missing(10), FULL);
    }

    private void removeAll(int[] numbers, State state) {
        for (int number : numbers) {
            call("remove(" + number + ")", r -> r.remove(number));
        }
        refused(-1, state);
    }

    private void refusedQuestions() {
        sentence("Terms", "A refused call changes nothing.");
        for (int number : missing(10)) {
            call("owned(" + number + ")", r -> r.owned(number));
            call("covered(" + number + ")", r -> r.covered(number));
            call("covers(" + number + ", 8, 8)", r -> r.covers(number, 8, 8));
            call("firstIn(" + number + ", 8)", r -> r.firstIn(number, 8));
            call("lastIn(" + number + ", 8)", r -> r.lastIn(number, 8));
            call("nearer(" + number + ", 0, 136)", r -> r.nearer(number, 0, 136));
            call("nearer(0, " + number + ", 136)", r -> r.nearer(0, number, 136));
        }
        for (int off : offWindow()) {
            call("owner(" + off + ", 8)", r -> r.owner(off, 8));
            call("owner(8, " + off + ")", r -> r.owner(8, off));
        }
        refused(-1, SOME, FULL);
        for (int off : offWindow()) {
            call("covers(0, " + off + ", 8)", r -> r.covers(0, off, 8));
            call("covers(0, 8, " + off + ")", r -> r.covers(0, 8, off));
            call("firstIn(0, " + off + ")", r -> r.firstIn(0, off));
            call("lastIn(0, " + off + ")", r -> r.lastIn(0, off));
        }
        for (int off : offPixels()) {
            call("nearer(0, 1, " + off + ")", r -> r.nearer(0, 1, off));
        }
        refused(-2, SOME, FULL);
        call("firstIn(0, 15)", r -> r.firstIn(0, 15));
        call("lastIn(0, 15)", r -> r.lastIn(0, 15));
        call("nearer(0, 1, 255)", r -> r.nearer(0, 1, 255));
        refused(-3, SOME, FULL);
    }
}
