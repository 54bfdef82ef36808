import java.util.ArrayList;
import java.util.List;

/** All that the calls tell of an object, so that two of them can be compared. */
final class Everything {
    // More than the states of a history, so that the answer of an empty one is told too.
    private static final int UNDOS = 5;

    private Everything() {
    }

    /** The state, and the lengths of the text and the history; it changes nothing. */
    static List<Integer> state(SplitTowers x) {
        List<Integer> told = new ArrayList<>();
        for (int what = 0; what < 8; what++) {
            told.add(x.count(what));
        }
        int degree = told.get(1);
        for (int k = 0; k < degree; k++) {
            told.add(x.modulus(k));
        }
        for (int register = 0; register < 6; register++) {
            for (int k = 0; k < degree; k++) {
                told.add(x.number(register, k));
            }
        }
        int branches = told.get(2);
        for (int branch = 0; branch < branches; branch++) {
            int coefficient = 0;
            for (int k = 0; k <= degree && coefficient >= 0; k++) {
                coefficient = x.branch(branch, k);
                told.add(coefficient);
            }
        }
        return told;
    }

    /**
     * The state, those of the history, that of the snapshot, and what the text does; the object is used up by it:
     * with a modulus of degree 3 these are some 320 of its 512 calls.
     */
    static List<Integer> of(SplitTowers x) {
        List<Integer> told = state(x);
        for (int k = 0; k < UNDOS; k++) {
            int left = x.undo();
            told.add(left);
            if (left != SplitTowers.NONE) {
                told.addAll(state(x));
            }
        }
        told.add(x.restore());
        told.addAll(state(x));
        told.add(x.assign());
        told.addAll(state(x));
        told.add(x.readModulus());
        told.addAll(state(x));
        return told;
    }
}
