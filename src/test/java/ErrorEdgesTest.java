/** The part "Errors" of the terms: the order of the checks of each method, and that what is told changes nothing. */
public final class ErrorEdgesTest {
    private static final Check CHECK = new Check("ErrorEdgesTest");
    private static final int FAR = Integer.MAX_VALUE;
    private static final int LOW = Integer.MIN_VALUE;
    private static final Twins TWINS = new Twins(CHECK, ErrorEdgesTest::parted);

    public static void main(String[] args) {
        constants();
        unknownComesFirst();
        badValueComesBeforeNone();
        toldChangesNothing();
        toldWithErrorsChangesNothing();
        oneBranch();
        noneIsNoError();
        CHECK.done();
    }

    /** (x+4)(x^2+3) over 5 in two branches; a is x+4, b is x^2+x, c is 0; the history is full, and a state is kept. */
    private static void parted(SplitTowers x) {
        Check.readModulus(x, "2,3,4,1");
        x.setNumber(5, 0, 4);
        x.keep();
        Check.assign(x, "a=x+4");
        x.part(0);
        Check.assign(x, "b=x^2+x");
    }

    private static void refused(String call, int want, Twins.Call given) {
        TWINS.changesNothing(call, want, given);
    }

    private static void constants() {
        CHECK.sentence("Errors are reported by the constants below");
        CHECK.due("UNKNOWN", SplitTowers.UNKNOWN, -1);
        CHECK.due("BAD_VALUE", SplitTowers.BAD_VALUE, -2);
        CHECK.due("FULL", SplitTowers.FULL, -3);
        CHECK.due("NOT_POSSIBLE", SplitTowers.NOT_POSSIBLE, -4);
        CHECK.due("NONE", SplitTowers.NONE, -5);
    }

    private static void unknownComesFirst() {
        CHECK.sentence("the order of the @return line is the order of the checks");
        int unknown = SplitTowers.UNKNOWN;
        for (int no : new int[] {-1, 6, FAR, LOW}) {
            refused("setNumber(no, -1, 0)", unknown, x -> x.setNumber(no, -1, 0));
            refused("setNumber(no, 0, 5)", unknown, x -> x.setNumber(no, 0, 5));
            refused("setNumber(no, 3, -1)", unknown, x -> x.setNumber(no, 3, -1));
            refused("put(no, 0, no)", unknown, x -> x.put(no, 0, no));
            refused("put(1, no, 1)", unknown, x -> x.put(1, no, 1));
            refused("put(no, no, no)", unknown, x -> x.put(no, no, no));
            refused("join(no, no)", unknown, x -> x.join(no, no));
            refused("number(no, -1)", unknown, x -> x.number(no, -1));
            refused("number(no, 3)", unknown, x -> x.number(no, 3));
            refused("branch(no, -1)", unknown, x -> x.branch(no, -1));
            refused("branch(no, 9)", unknown, x -> x.branch(no, 9));
            refused("seen(no, 0, -1)", unknown, x -> x.seen(no, 0, -1));
            refused("seen(0, no, 1)", unknown, x -> x.seen(0, no, 1));
            refused("seen(no, no, no)", unknown, x -> x.seen(no, no, no));
            refused("kind(no, no)", unknown, x -> x.kind(no, no));
            refused("unit(no, -1)", unknown, x -> x.unit(no, -1));
            refused("unit(no, 3)", unknown, x -> x.unit(no, 3));
            refused("power(no, -1, 0)", unknown, x -> x.power(no, -1, 0));
            refused("power(no, 0, 3)", unknown, x -> x.power(no, 0, 3));
            refused("power(no, 1000001, -1)", unknown, x -> x.power(no, 1000001, -1));
            refused("leastPolynomial(no, -1)", unknown, x -> x.leastPolynomial(no, -1));
            refused("leastPolynomial(no, 9)", unknown, x -> x.leastPolynomial(no, 9));
            refused("trace(no)", unknown, x -> x.trace(no));
            refused("order(no)", unknown, x -> x.order(no));
            refused("part(no)", unknown, x -> x.part(no));
            refused("joinAlike(no)", unknown, x -> x.joinAlike(no));
        }
        refused("join(0, 2)", unknown, x -> x.join(0, 2));
        refused("join(2, 2)", unknown, x -> x.join(2, 2));
        refused("put(1, 2, 1)", unknown, x -> x.put(1, 2, 1));
        refused("branch(2, -1)", unknown, x -> x.branch(2, -1));
        refused("seen(0, 2, -1)", unknown, x -> x.seen(0, 2, -1));
        refused("kind(0, 2)", unknown, x -> x.kind(0, 2));
        refused("unit(2, -1)", unknown, x -> x.unit(2, -1));
    }

    private static void badValueComesBeforeNone() {
        CHECK.sentence("NONE is no error; it is returned only if no error applies");
        int bad = SplitTowers.BAD_VALUE;
        refused("setNumber(2, 3, 0), which is so already", bad, x -> x.setNumber(2, 3, 0));
        refused("setNumber(2, -1, 0), which is so already", bad, x -> x.setNumber(2, -1, 0));
        refused("setNumber(2, 0, 5), which is 0 modulo 5", bad, x -> x.setNumber(2, 0, 5));
        refused("setNumber(2, 0, -5), which is 0 modulo 5", bad, x -> x.setNumber(2, 0, -5));
        refused("put(2, 0, 2), which would change nothing", bad, x -> x.put(2, 0, 2));
        refused("setPrime(-5)", bad, x -> x.setPrime(-5));
        refused("setPrime(10)", bad, x -> x.setPrime(10));
        refused("modulus(-1)", bad, x -> x.modulus(-1));
        refused("branch(0, -1)", bad, x -> x.branch(0, -1));
        refused("leastPolynomial(0, -1)", bad, x -> x.leastPolynomial(0, -1));
        refused("branch(0, MIN)", bad, x -> x.branch(0, LOW));
        refused("modulus(MIN)", bad, x -> x.modulus(LOW));
        refused("leastPolynomial(0, MIN)", bad, x -> x.leastPolynomial(0, LOW));
        CHECK.sentence("NONE if there are no two to be joined");
        Twins one = new Twins(CHECK, x -> {
            parted(x);
            x.join(0, 1);
        });
        one.changesNothing("joinAlike(0)", SplitTowers.NOT_POSSIBLE, x -> x.joinAlike(0));
        one.changesNothing("joinAlike(2)", SplitTowers.NONE, x -> x.joinAlike(2));
    }

    private static void toldChangesNothing() {
        CHECK.sentence("Each call of a method that is described as an act");
        refused("modulus(1)", 3, x -> x.modulus(1));
        refused("number(1, 2)", 1, x -> x.number(1, 2));
        refused("branch(1, 0)", 3, x -> x.branch(1, 0));
        refused("seen(1, 1, 0)", 2, x -> x.seen(1, 1, 0));
        refused("seen(1, 0, 0)", 2, x -> x.seen(1, 0, 0));
        refused("kind(0, 0)", 0, x -> x.kind(0, 0));
        refused("kind(0, 1)", 1, x -> x.kind(0, 1));
        refused("unit(0, 2)", 4, x -> x.unit(0, 2));
        refused("power(0, 0, 0)", 1, x -> x.power(0, 0, 0));
        refused("power(5, 1000000, 0)", 1, x -> x.power(5, 1000000, 0));
        refused("leastPolynomial(2, 1)", 1, x -> x.leastPolynomial(2, 1));
        refused("leastPolynomial(0, 3)", 1, x -> x.leastPolynomial(0, 3));
        refused("trace(5)", 2, x -> x.trace(5));
        refused("order(5)", 2, x -> x.order(5));
        refused("factors(2)", 1, x -> x.factors(2));
        refused("factors(6)", 0, x -> x.factors(6));
        int[] counts = {5, 3, 2, 2, 2, 3, 4, 7};
        for (int k = 0; k < counts.length; k++) {
            int what = k;
            refused("count(" + k + ")", counts[k], x -> x.count(what));
        }
    }

    private static void toldWithErrorsChangesNothing() {
        CHECK.sentence("A call that returns an error or NONE changes nothing");
        int bad = SplitTowers.BAD_VALUE;
        int none = SplitTowers.NONE;
        refused("modulus(4)", none, x -> x.modulus(4));
        refused("number(0, 3)", bad, x -> x.number(0, 3));
        refused("branch(0, 2)", none, x -> x.branch(0, 2));
        refused("seen(0, 0, 1)", bad, x -> x.seen(0, 0, 1));
        refused("seen(0, 1, 2)", bad, x -> x.seen(0, 1, 2));
        refused("unit(0, 3)", bad, x -> x.unit(0, 3));
        refused("power(0, -1, 0)", bad, x -> x.power(0, -1, 0));
        refused("power(0, 1000001, 0)", bad, x -> x.power(0, 1000001, 0));
        refused("power(0, 1, 3)", bad, x -> x.power(0, 1, 3));
        refused("leastPolynomial(0, 4)", none, x -> x.leastPolynomial(0, 4));
        refused("order(0)", none, x -> x.order(0));
        refused("factors(0)", bad, x -> x.factors(0));
        refused("factors(7)", bad, x -> x.factors(7));
        refused("count(-1)", bad, x -> x.count(-1));
        refused("count(8)", bad, x -> x.count(8));
    }

    private static void oneBranch() {
        CHECK.sentence("There is no such register or branch");
        SplitTowers x = new SplitTowers();
        CHECK.due("put(0, 1, 0)", x.put(0, 1, 0), SplitTowers.UNKNOWN);
        CHECK.due("put(0, 0, 0)", x.put(0, 0, 0), SplitTowers.BAD_VALUE);
        CHECK.due("put(0, 0, 1)", x.put(0, 0, 1), SplitTowers.NONE);
        CHECK.due("join(0, 1)", x.join(0, 1), SplitTowers.UNKNOWN);
        CHECK.due("join(1, 0)", x.join(1, 0), SplitTowers.UNKNOWN);
        CHECK.due("join(0, 0)", x.join(0, 0), SplitTowers.BAD_VALUE);
        CHECK.due("branch(1, 0)", x.branch(1, 0), SplitTowers.UNKNOWN);
        CHECK.due("seen(0, 1, 0)", x.seen(0, 1, 0), SplitTowers.UNKNOWN);
        CHECK.due("kind(0, 1)", x.kind(0, 1), SplitTowers.UNKNOWN);
        CHECK.due("unit(1, 0)", x.unit(1, 0), SplitTowers.UNKNOWN);
        CHECK.due("kind(0, 0)", x.kind(0, 0), 0);
        CHECK.due("seen(0, 0, 0)", x.seen(0, 0, 0), 0);
        CHECK.due("unit(0, 0)", x.unit(0, 0), 1);
    }

    private static void noneIsNoError() {
        CHECK.sentence("There is no such thing; not an error");
        SplitTowers x = new SplitTowers();
        CHECK.due("setPrime(5)", x.setPrime(5), SplitTowers.NONE);
        CHECK.due("setNumber(0, 0, 0)", x.setNumber(0, 0, 0), SplitTowers.NONE);
        CHECK.due("part(0)", x.part(0), SplitTowers.NONE);
        CHECK.due("partByDegrees()", x.partByDegrees(), SplitTowers.NONE);
        CHECK.due("joinAlike(0)", x.joinAlike(0), SplitTowers.NONE);
        CHECK.due("undo()", x.undo(), SplitTowers.NONE);
        CHECK.due("restore()", x.restore(), SplitTowers.NONE);
        CHECK.due("modulus(2)", x.modulus(2), SplitTowers.NONE);
        CHECK.due("branch(0, 2)", x.branch(0, 2), SplitTowers.NONE);
        CHECK.due("leastPolynomial(0, 2)", x.leastPolynomial(0, 2), SplitTowers.NONE);
        CHECK.due("order(0)", x.order(0), SplitTowers.NONE);
        CHECK.due("readModulus()", Check.readModulus(x, "0,1"), SplitTowers.NONE);
        CHECK.due("count(6)", x.count(6), 0);
    }
}
