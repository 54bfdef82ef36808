/** Objects that are made alike, of which one is given a call more than the other. */
final class Twins {
    /** The calls that both have behind them. */
    interface Setup {
        void on(SplitTowers x);
    }

    /** The call that only one is given. */
    interface Call {
        int on(SplitTowers x);
    }

    private final Check check;
    private final Setup setup;

    Twins(Check check, Setup setup) {
        this.check = check;
        this.setup = setup;
    }

    /** The call changes nothing but what the other calls do, which the twin is given alone. */
    void changesNothing(String call, int want, Call given, Setup without) {
        SplitTowers x = made();
        SplitTowers y = made();
        check.due(call, given.on(x), want);
        without.on(y);
        check.that("nothing is changed by " + call, Everything.of(x).equals(Everything.of(y)));
    }

    private SplitTowers made() {
        SplitTowers x = new SplitTowers();
        setup.on(x);
        return x;
    }

    /** State, history, snapshot and text are afterwards as if there had been no call. */
    void changesNothing(String call, int want, Call given) {
        changesNothing(call, want, given, x -> { });
    }

    /** The state before is recorded, and all is as before when it is undone. */
    void isAnAct(String call, int want, Call given) {
        isAnAct(call, want, given, x -> { });
    }

    /** All is as before but what the other calls do, which the twin is given alone. */
    void isAnAct(String call, int want, Call given, Setup without) {
        SplitTowers x = made();
        SplitTowers y = made();
        without.on(y);
        int states = x.count(6);
        check.due(call, given.on(x), want);
        check.due("count(6) after " + call, x.count(6), states + 1);
        check.due("undo() after " + call, x.undo(), states);
        check.that("all is undone of " + call, Everything.of(x).equals(Everything.of(y)));
    }
}
