/** Promises 11 to 15: type, clearText, undo, keep, restore. */
public final class TextsAndHistoryTest {
    private static final Check CHECK = new Check("TextsAndHistoryTest");

    public static void main(String[] args) {
        texts();
        textsAreNoState();
        undo();
        whatIsNotRecorded();
        keepAndRestore();
        CHECK.done();
    }

    private static void texts() {
        SplitTowers x = new SplitTowers();
        CHECK.due("clearText()", x.clearText(), 0);
        for (int k = 1; k <= 60; k++) {
            CHECK.due("type", x.type((char) (k * 1000)), k);
        }
        CHECK.due("type", x.type('a'), SplitTowers.FULL);
        CHECK.due("type", x.type((char) 0), SplitTowers.FULL);
        CHECK.due("count(7)", x.count(7), 60);
        CHECK.due("clearText()", x.clearText(), 60);
        CHECK.due("clearText()", x.clearText(), 0);
        CHECK.due("type", x.type((char) 65535), 1);
        CHECK.due("count(6)", x.count(6), 0);
    }

    private static void textsAreNoState() {
        SplitTowers x = new SplitTowers();
        Check.assign(x, "a=3");
        x.keep();
        Check.text(x, "b=4+1");
        CHECK.due("undo()", x.undo(), 0);
        CHECK.due("count(7)", x.count(7), 5);
        CHECK.due("restore()", x.restore(), 1);
        CHECK.due("count(7)", x.count(7), 5);
        x.setPrime(2);
        CHECK.due("count(7)", x.count(7), 5);
        CHECK.due("assign()", x.assign(), 1);
        CHECK.number(x, 1, 1);
    }

    private static void undo() {
        SplitTowers x = Check.withModulus(13, "11,1");
        for (int k = 1; k <= 6; k++) {
            x.setNumber(0, 0, k);
        }
        CHECK.due("count(6)", x.count(6), 4);
        for (int k = 5; k >= 2; k--) {
            CHECK.due("undo()", x.undo(), k - 2);
            CHECK.number(x, 0, k);
        }
        CHECK.due("undo()", x.undo(), SplitTowers.NONE);
        CHECK.number(x, 0, 2);
        CHECK.due("setNumber", x.setNumber(0, 0, 9), 2);
        CHECK.due("undo()", x.undo(), 0);
        CHECK.number(x, 0, 2);
        CHECK.due("count(0)", x.count(0), 13);
        SplitTowers y = Check.withModulus(3, "2,0,1");
        CHECK.due("undo()", y.undo(), 1);
        CHECK.modulus(y, 0, 1);
        CHECK.due("undo()", y.undo(), 0);
        CHECK.due("count(0)", y.count(0), 5);
    }

    private static void whatIsNotRecorded() {
        SplitTowers x = new SplitTowers();
        x.setPrime(4);
        x.setPrime(5);
        Check.readModulus(x, "0,1");
        Check.readModulus(x, "0,0,1");
        x.setNumber(0, 0, 0);
        x.setNumber(0, 0, 5);
        x.assign();
        x.put(0, 0, 1);
        x.part(0);
        x.partByDegrees();
        x.join(0, 0);
        x.joinAlike(0);
        x.undo();
        x.keep();
        CHECK.due("count(6)", x.count(6), 0);
        x.restore();
        CHECK.due("count(6)", x.count(6), 1);
    }

    private static void keepAndRestore() {
        SplitTowers x = Check.withModulus(5, "4,0,1");
        CHECK.due("restore()", x.restore(), SplitTowers.NONE);
        Check.assign(x, "a=x/(x-1)");
        CHECK.due("keep()", x.keep(), 2);
        CHECK.due("count(6)", x.count(6), 2);
        x.setPrime(2);
        CHECK.due("restore()", x.restore(), 2);
        CHECK.row("count(..)", x::count, 5, 2, 2, 2, 1, 5, 4, 9);
        CHECK.number(x, 0, 4, 1);
        CHECK.due("restore() again is an act", x.restore(), 2);
        CHECK.due("undo()", x.undo(), 3);
        CHECK.due("undo()", x.undo(), 2);
        CHECK.due("count(0)", x.count(0), 2);
        CHECK.due("keep()", x.keep(), 1);
        x.undo();
        CHECK.due("the snapshot is no state", x.restore(), 1);
        CHECK.due("count(0)", x.count(0), 2);
        x.setNumber(0, 0, 1);
        x.restore();
        CHECK.number(x, 0, 0);
    }
}
