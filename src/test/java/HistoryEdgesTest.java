import java.util.List;

/** The edges of the part "History" of the terms, and of promises 13 to 15: a sentence of the document each. */
public final class HistoryEdgesTest {
    private static final Check CHECK = new Check("HistoryEdgesTest");
    private static final String[] ACTS = {"setPrime", "readModulus", "setNumber", "assign", "put", "part", "partByDegrees",
        "join", "joinAlike", "restore"};

    public static void main(String[] args) {
        atMostFourStates();
        oldestOneIsDropped();
        undoRemovesTheLatest();
        undoTellsWhatIsLeft();
        eachActIsRecorded();
        eachActDropsTheOldest();
        refusedActsAreNotRecorded();
        othersAreNotRecorded();
        oneSnapshotEmptyAtFirst();
        keepTakesThePlaceOfTheSnapshot();
        snapshotStays();
        allButTheTextTheHistoryAndTheSnapshot();
        statesAreKeptApart();
        greatestState();
        objectsAreKeptApart();
        keepTellsTheBranches();
        undoOfNoHistory();
        fiveHundredAndTwelveCalls();
        CHECK.done();
    }

    /** (x+4)(x^2+3) over 5 with one branch, a history of two states, two branches that are kept, and another modulus told. */
    private static void setup(SplitTowers x) {
        Check.readModulus(x, "2,3,4,1");
        x.setNumber(0, 0, 4);
        x.setNumber(0, 1, 1);
        x.part(0);
        x.keep();
        x.undo();
        x.undo();
        Check.text(x, "0,1,1");
    }

    /** One of the acts, which is possible behind what is needed before it. */
    private static int act(SplitTowers x, String name) {
        switch (name) {
            case "setPrime": return x.setPrime(7);
            case "readModulus": return x.readModulus();
            case "setNumber": return x.setNumber(3, 2, 2);
            case "assign": return Check.assign(x, "b=1/(x^2+3)");
            case "put": return x.put(4, 0, 5);
            case "part": return x.part(5);
            case "partByDegrees": return x.partByDegrees();
            case "join": return x.join(0, 1);
            case "joinAlike": return x.joinAlike(2);
            default: return x.restore();
        }
    }

    /** The setup, and what the act needs besides. */
    private static void before(SplitTowers x, String name) {
        setup(x);
        if (name.equals("put")) {
            Check.assign(x, "e=1+0/(x-1)");
        } else if (name.equals("part")) {
            Check.assign(x, "f=x-1");
        } else if (name.equals("join") || name.equals("joinAlike")) {
            x.partByDegrees();
        }
    }

    private static void atMostFourStates() {
        CHECK.sentence("A history of at most 4 states is kept");
        SplitTowers x = new SplitTowers();
        for (int k = 1; k <= 9; k++) {
            CHECK.due("count(6)", x.count(6), Math.min(k - 1, 4));
            x.setNumber(0, 0, 1 + k % 2);
        }
        CHECK.due("count(6)", x.count(6), 4);
        for (int k = 3; k >= 0; k--) {
            CHECK.due("undo()", x.undo(), k);
            CHECK.due("count(6)", x.count(6), k);
        }
        CHECK.due("undo() of none", x.undo(), SplitTowers.NONE);
        CHECK.due("count(6)", x.count(6), 0);
    }

    private static void oldestOneIsDropped() {
        CHECK.sentence("when one more is recorded, the oldest one is dropped");
        for (int acts = 1; acts <= 12; acts++) {
            SplitTowers x = Check.withModulus(13, "11,1");
            x.undo();
            x.undo();
            x.setPrime(13);
            x.undo();
            // The history is empty, and its row begins at several places.
            for (int k = 0; k < acts; k++) {
                x.setPrime(k % 2 == 0 ? 13 : 11);
                CHECK.due("count(6)", x.count(6), Math.min(k + 1, 4));
            }
            for (int k = acts - 1; k >= Math.max(0, acts - 4); k--) {
                CHECK.due("undo()", x.undo(), k - Math.max(0, acts - 4));
                CHECK.due("count(0)", x.count(0), k == 0 ? 5 : k % 2 == 1 ? 13 : 11);
            }
            CHECK.due("undo() beyond", x.undo(), SplitTowers.NONE);
            CHECK.due("count(0)", x.count(0), acts <= 4 ? 5 : acts % 2 == 1 ? 13 : 11);
        }
    }

    private static void undoRemovesTheLatest() {
        CHECK.sentence("undo() removes and restores the latest one");
        SplitTowers x = new SplitTowers();
        x.setNumber(0, 0, 1);
        x.setNumber(0, 0, 2);
        x.setNumber(0, 0, 3);
        CHECK.due("undo()", x.undo(), 2);
        CHECK.number(x, 0, 2);
        CHECK.due("undo()", x.undo(), 1);
        CHECK.number(x, 0, 1);
        x.setNumber(0, 0, 4);
        CHECK.due("undo() of another act", x.undo(), 1);
        CHECK.number(x, 0, 1);
        CHECK.due("undo()", x.undo(), 0);
        CHECK.number(x, 0, 0);
        CHECK.due("undo()", x.undo(), SplitTowers.NONE);
        CHECK.number(x, 0, 0);
    }

    private static void undoTellsWhatIsLeft() {
        CHECK.sentence("Returns the number of states that are left; NONE if the history is empty");
        for (int acts = 0; acts <= 6; acts++) {
            SplitTowers x = new SplitTowers();
            for (int k = 0; k < acts; k++) {
                x.setNumber(0, 0, 1 + k % 4);
            }
            CHECK.due("undo() behind " + acts, x.undo(), acts == 0 ? SplitTowers.NONE : Math.min(acts, 4) - 1);
        }
    }

    private static void eachActIsRecorded() {
        CHECK.sentence("and returns no error and not NONE, records the state that was before it");
        int[] due = {5, 2, 0, 2, 1, 1, 2, 0, 1, 2};
        for (int k = 0; k < ACTS.length; k++) {
            String name = ACTS[k];
            Twins twins = new Twins(CHECK, x -> before(x, name));
            if (name.equals("assign")) {
                twins.isAnAct(name, due[k], x -> act(x, name), x -> Check.text(x, "b=1/(x^2+3)"));
            } else {
                twins.isAnAct(name, due[k], x -> act(x, name));
            }
        }
    }

    private static void eachActDropsTheOldest() {
        CHECK.sentence("when one more is recorded, the oldest one is dropped");
        for (String name : ACTS) {
            SplitTowers x = full(name);
            SplitTowers y = full(name);
            CHECK.due("count(6) before " + name, x.count(6), 4);
            CHECK.that(name + " is done", act(x, name) >= 0);
            CHECK.due("count(6) after " + name, x.count(6), 4);
            CHECK.due("undo() of " + name, x.undo(), 3);
            Check.text(x, "");
            Check.text(y, "");
            List<Integer> after = Everything.state(x);
            after.set(6, 4);
            CHECK.that("the state before " + name, after.equals(Everything.state(y)));
            for (int left = 2; left >= 0; left--) {
                CHECK.due("undo()", x.undo(), left);
                CHECK.due("undo() without " + name, y.undo(), left + 1);
                List<Integer> told = Everything.state(x);
                told.set(6, left + 1);
                CHECK.that("a state behind " + name, told.equals(Everything.state(y)));
            }
            CHECK.due("undo() beyond", x.undo(), SplitTowers.NONE);
            CHECK.due("undo() of the oldest one without " + name, y.undo(), 0);
        }
    }

    private static SplitTowers full(String name) {
        SplitTowers x = new SplitTowers();
        before(x, name);
        for (int k = 0; x.count(6) < 4 && k < 4; k++) {
            x.setNumber(1, 1, k + 1);
        }
        x.setNumber(1, 0, 3);
        return x;
    }

    private static void refusedActsAreNotRecorded() {
        CHECK.sentence("A call that returns an error or NONE changes nothing");
        Twins twins = new Twins(CHECK, x -> {
            before(x, "join");
            x.setNumber(1, 0, 1);
            x.setNumber(1, 1, 1);
        });
        twins.changesNothing("setPrime(4)", SplitTowers.BAD_VALUE, x -> x.setPrime(4));
        twins.changesNothing("setPrime(5)", SplitTowers.NONE, x -> x.setPrime(5));
        twins.changesNothing("setNumber(0, 3, 0)", SplitTowers.BAD_VALUE, x -> x.setNumber(0, 3, 0));
        twins.changesNothing("setNumber(1, 0, 1)", SplitTowers.NONE, x -> x.setNumber(1, 0, 1));
        twins.changesNothing("assign()", -100, SplitTowers::assign);
        twins.changesNothing("put(0, 2, 1)", SplitTowers.UNKNOWN, x -> x.put(0, 2, 1));
        twins.changesNothing("put(1, 0, 1)", SplitTowers.BAD_VALUE, x -> x.put(1, 0, 1));
        twins.changesNothing("put(3, 0, 4)", SplitTowers.NONE, x -> x.put(3, 0, 4));
        twins.changesNothing("part(6)", SplitTowers.UNKNOWN, x -> x.part(6));
        twins.changesNothing("part(5)", SplitTowers.NONE, x -> x.part(5));
        twins.changesNothing("partByDegrees()", SplitTowers.NONE, SplitTowers::partByDegrees);
        twins.changesNothing("join(0, 2)", SplitTowers.UNKNOWN, x -> x.join(0, 2));
        twins.changesNothing("join(1, 1)", SplitTowers.BAD_VALUE, x -> x.join(1, 1));
        twins.changesNothing("joinAlike(6)", SplitTowers.UNKNOWN, x -> x.joinAlike(6));
        twins.changesNothing("readModulus() of another text", -101, x -> Check.readModulus(x, "13"),
            x -> Check.text(x, "13"));
        twins.changesNothing("readModulus() of a square", SplitTowers.NOT_POSSIBLE, x -> Check.readModulus(x, "0,0,1"),
            x -> Check.text(x, "0,0,1"));
        twins.changesNothing("readModulus() of the modulus", SplitTowers.NONE, x -> Check.readModulus(x, "2,3,4,1"),
            x -> Check.text(x, "2,3,4,1"));
    }

    private static void othersAreNotRecorded() {
        CHECK.sentence("Each call of a method that is described as an act");
        SplitTowers x = new SplitTowers();
        setup(x);
        List<Integer> before = Everything.state(x);
        x.type('1');
        x.clearText();
        Check.text(x, "0,1,1");
        x.keep();
        x.modulus(0);
        x.number(0, 0);
        x.branch(0, 0);
        x.seen(0, 0, 0);
        x.kind(0, 0);
        x.unit(0, 0);
        x.power(0, 3, 0);
        x.leastPolynomial(0, 0);
        x.trace(0);
        x.order(0);
        x.factors(1);
        x.count(3);
        CHECK.that("the state is as it was", Everything.state(x).equals(before));
        CHECK.due("undo() is none", x.undo(), 1);
        CHECK.due("undo() is none", x.undo(), 0);
        CHECK.due("undo() is none", x.undo(), SplitTowers.NONE);
    }

    private static void oneSnapshotEmptyAtFirst() {
        CHECK.sentence("There is one snapshot, empty at first");
        Twins twins = new Twins(CHECK, x -> {
            Check.readModulus(x, "0,4,0,1");
            Check.assign(x, "a=1/(x-1)");
        });
        twins.changesNothing("restore() of no snapshot", SplitTowers.NONE, SplitTowers::restore);
        SplitTowers x = new SplitTowers();
        CHECK.due("restore() at first", x.restore(), SplitTowers.NONE);
        CHECK.due("keep()", x.keep(), 1);
        CHECK.due("restore()", x.restore(), 1);
        SplitTowers y = new SplitTowers();
        y.setNumber(0, 0, 2);
        CHECK.due("restore() of another object", y.restore(), SplitTowers.NONE);
    }

    private static void keepTakesThePlaceOfTheSnapshot() {
        CHECK.sentence("Takes a snapshot of the state, in place of the one that was");
        SplitTowers x = new SplitTowers();
        x.setNumber(0, 0, 1);
        x.keep();
        x.setNumber(0, 0, 2);
        x.keep();
        x.setNumber(0, 0, 3);
        CHECK.due("restore()", x.restore(), 1);
        CHECK.number(x, 0, 2);
        CHECK.due("restore()", x.restore(), 1);
        CHECK.number(x, 0, 2);
        for (int k = 0; k < 4; k++) {
            x.undo();
        }
        CHECK.number(x, 0, 1);
        CHECK.due("undo() beyond", x.undo(), SplitTowers.NONE);
        CHECK.due("restore() of the later one", x.restore(), 1);
        CHECK.number(x, 0, 2);
    }

    private static void snapshotStays() {
        CHECK.sentence("Restores the state of the snapshot, which stays");
        SplitTowers x = new SplitTowers();
        x.setNumber(0, 0, 1);
        x.keep();
        for (int k = 2; k <= 4; k++) {
            x.setNumber(0, 0, k);
            CHECK.due("restore()", x.restore(), 1);
            CHECK.number(x, 0, 1);
        }
        CHECK.due("undo()", x.undo(), 3);
        CHECK.number(x, 0, 4);
        CHECK.due("restore() behind an undo()", x.restore(), 1);
        CHECK.number(x, 0, 1);
        CHECK.due("count(6)", x.count(6), 4);
        SplitTowers y = new SplitTowers();
        y.keep();
        CHECK.due("restore() of the state that there is", y.restore(), 1);
        CHECK.due("is an act nevertheless", y.count(6), 1);
    }

    private static void allButTheTextTheHistoryAndTheSnapshot() {
        CHECK.sentence("A state is everything but the text, the history and the snapshot");
        SplitTowers x = new SplitTowers();
        setup(x);
        x.partByDegrees();
        x.setNumber(5, 2, 3);
        x.keep();
        List<Integer> kept = Everything.state(x);
        Check.text(x, "1");
        x.setPrime(13);
        x.setNumber(0, 0, 12);
        CHECK.due("restore()", x.restore(), 2);
        kept.set(6, 4);
        kept.set(7, 1);
        CHECK.that("prime, modulus, registers and branches come back", Everything.state(x).equals(kept));
        CHECK.due("the history goes on", x.undo(), 3);
        CHECK.number(x, 0, 12);
        CHECK.due("the text stays", x.clearText(), 1);
        Check.text(x, "a=7");
        x.undo();
        x.undo();
        CHECK.due("the text stays in undo()", x.count(7), 3);
        kept.set(6, 1);
        kept.set(7, 3);
        CHECK.that("prime, modulus, registers and branches come back", Everything.state(x).equals(kept));
        CHECK.due("the text is the one of before", x.assign(), 2);
        CHECK.number(x, 0, 2, 0, 0);
        CHECK.due("the snapshot stays in undo()", x.restore(), 2);
        CHECK.number(x, 5, 0, 0, 3);
        CHECK.number(x, 0, 4, 0, 0);
    }

    private static void statesAreKeptApart() {
        CHECK.sentence("A state is everything but the text, the history and the snapshot");
        SplitTowers x = Check.withModulus(7, "6,0,0,0,0,0,1");
        Check.assign(x, "a=0/(x-1)+0/(x-2)+0/(x-3)");
        x.keep();
        x.join(0, 1);
        x.join(0, 2);
        x.join(0, 1);
        CHECK.due("count(2)", x.count(2), 1);
        x.undo();
        x.undo();
        x.undo();
        for (int k = 0; k < 3; k++) {
            CHECK.branch(x, k, k + 4, 1);
        }
        // The rest are the roots 4, 5 and 6: x^3 - 15x^2 + 74x - 120.
        CHECK.branch(x, 3, 6, 4, 6, 1);
        x.partByDegrees();
        Check.assign(x, "a=0/(x-4)+0/(x-5)");
        CHECK.due("count(2)", x.count(2), 6);
        CHECK.due("restore()", x.restore(), 4);
        CHECK.branch(x, 3, 6, 4, 6, 1);
        CHECK.due("branch(4, 0)", x.branch(4, 0), SplitTowers.UNKNOWN);
        x.join(0, 3);
        CHECK.due("restore() again", x.restore(), 4);
        CHECK.branch(x, 0, 4, 1);
        CHECK.branch(x, 3, 6, 4, 6, 1);
    }

    private static void greatestState() {
        CHECK.sentence("A state is everything but the text, the history and the snapshot");
        SplitTowers x = Check.withModulus(7, "6,0,0,0,0,0,1");
        Check.assign(x, "a=0/(x-1)+0/(x-2)+0/(x-3)+0/(x-4)+0/(x-5)");
        CHECK.due("six branches", x.keep(), 6);
        for (int register = 0; register < 6; register++) {
            for (int k = 0; k < 6; k++) {
                x.setNumber(register, k, 6);
            }
        }
        x.keep();
        anotherGreatState(x);
        CHECK.due("undo()", x.undo(), 3);
        CHECK.due("undo()", x.undo(), 2);
        CHECK.due("undo()", x.undo(), 1);
        greatestStateIsThere(x);
        anotherGreatState(x);
        CHECK.due("restore()", x.restore(), 6);
        greatestStateIsThere(x);
    }

    private static void anotherGreatState(SplitTowers x) {
        x.setPrime(11);
        Check.readModulus(x, "0,10,10,5,8,4,1");
        Check.assign(x, "f=x^5+0/x+0/(x+1)+0/(x+2)+0/(x+3)+0/(x+4)");
        CHECK.due("count(2)", x.count(2), 6);
        CHECK.branch(x, 5, 5, 1);
    }

    private static void greatestStateIsThere(SplitTowers x) {
        CHECK.modulus(x, 6, 0, 0, 0, 0, 0, 1);
        for (int k = 0; k < 6; k++) {
            CHECK.number(x, k, 6, 6, 6, 6, 6, 6);
            CHECK.branch(x, k, k + 1, 1);
        }
        CHECK.due("count(2)", x.count(2), 6);
    }

    private static void objectsAreKeptApart() {
        CHECK.sentence("There is one snapshot, empty at first");
        SplitTowers x = new SplitTowers();
        x.setPrime(7);
        x.keep();
        Check.text(x, "a=3");
        SplitTowers y = new SplitTowers();
        CHECK.due("restore() of another object", y.restore(), SplitTowers.NONE);
        CHECK.due("undo() of another object", y.undo(), SplitTowers.NONE);
        CHECK.due("clearText() of another object", y.clearText(), 0);
        CHECK.row("count(..) of another object", y::count, 5, 1, 1, 1, 1, 6, 0, 0);
        CHECK.due("restore() of the first one", x.restore(), 1);
        y.setPrime(11);
        y.keep();
        CHECK.due("assign() of the first one", x.assign(), 1);
        CHECK.due("undo()", x.undo(), 2);
        CHECK.due("restore()", x.restore(), 1);
        CHECK.due("count(0)", x.count(0), 7);
        for (int left = 2; left >= 0; left--) {
            CHECK.due("undo()", x.undo(), left);
        }
        CHECK.due("count(0)", x.count(0), 5);
        CHECK.due("count(0) of another object", y.count(0), 11);
    }

    private static void keepTellsTheBranches() {
        CHECK.sentence("Returns how many branches there are");
        SplitTowers x = Check.withModulus(7, "6,0,0,0,0,0,1");
        for (int root = 1; root <= 6; root++) {
            CHECK.due("keep()", x.keep(), root);
            CHECK.due("restore()", x.restore(), root);
            Check.assign(x, "a=0/(x-" + root + ")");
        }
        CHECK.due("keep()", x.keep(), 6);
        Twins twins = new Twins(CHECK, y -> {
            setup(y);
            y.keep();
        });
        twins.changesNothing("keep() of the state that is kept", 1, SplitTowers::keep);
    }

    private static void undoOfNoHistory() {
        CHECK.sentence("NONE if the history is empty");
        Twins twins = new Twins(CHECK, x -> {
            setup(x);
            x.setNumber(2, 2, 2);
            x.keep();
            for (int k = 0; k < 3; k++) {
                x.undo();
            }
        });
        twins.changesNothing("undo()", SplitTowers.NONE, SplitTowers::undo);
        CHECK.due("undo() of a new object", new SplitTowers().undo(), SplitTowers.NONE);
    }

    private static void fiveHundredAndTwelveCalls() {
        CHECK.sentence("An object is used for at most 512 calls after it has been made");
        SplitTowers x = new SplitTowers();
        x.setPrime(13);
        for (int call = 2; call <= 507; call++) {
            CHECK.due("setNumber, the call " + call, x.setNumber(0, 0, call % 13), call == 2 ? 0 : (call - 1) % 13);
        }
        CHECK.due("the call 508", x.count(6), 4);
        CHECK.due("the call 509", x.undo(), 3);
        CHECK.due("the call 510", x.number(0, 0), 506 % 13);
        CHECK.due("the call 511", x.type('a'), 1);
        CHECK.due("the call 512", x.clearText(), 1);
    }
}
