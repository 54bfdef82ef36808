/** Promises 16 to 27: what is told. */
public final class ToldTest {
    private static final Check CHECK = new Check("ToldTest");
    private static final int[] NO_REGISTERS = {-1, 6, Integer.MAX_VALUE, Integer.MIN_VALUE};

    public static void main(String[] args) {
        modulusAndNumber();
        branchAndSeen();
        kind();
        unit();
        power();
        leastPolynomial();
        trace();
        order();
        factors();
        count();
        unknownRegisters();
        nothingIsRecorded();
        CHECK.done();
    }

    private static SplitTowers parted() {
        SplitTowers x = Check.withModulus(5, "4,0,1");
        Check.assign(x, "a=x+0/(x-1)");
        return x;
    }

    private static void modulusAndNumber() {
        SplitTowers x = parted();
        CHECK.modulus(x, 4, 0, 1);
        CHECK.due("modulus(-1)", x.modulus(-1), SplitTowers.BAD_VALUE);
        CHECK.due("modulus(MIN)", x.modulus(Integer.MIN_VALUE), SplitTowers.BAD_VALUE);
        CHECK.due("modulus(MAX)", x.modulus(Integer.MAX_VALUE), SplitTowers.NONE);
        CHECK.number(x, 0, 0, 1);
        CHECK.due("number(0, 2)", x.number(0, 2), SplitTowers.BAD_VALUE);
        CHECK.due("number(0, -1)", x.number(0, -1), SplitTowers.BAD_VALUE);
        CHECK.due("number(6, -1)", x.number(6, -1), SplitTowers.UNKNOWN);
    }

    private static void branchAndSeen() {
        SplitTowers x = parted();
        CHECK.branch(x, 0, 1, 1);
        CHECK.due("branch(0, -1)", x.branch(0, -1), SplitTowers.BAD_VALUE);
        CHECK.due("branch(2, -1)", x.branch(2, -1), SplitTowers.UNKNOWN);
        CHECK.due("branch(-1, 0)", x.branch(-1, 0), SplitTowers.UNKNOWN);
        CHECK.due("branch(0, MAX)", x.branch(0, Integer.MAX_VALUE), SplitTowers.NONE);
        CHECK.due("seen(0, 0, 0)", x.seen(0, 0, 0), 4);
        CHECK.due("seen(0, 1, 0)", x.seen(0, 1, 0), 1);
        CHECK.due("seen(0, 0, 1)", x.seen(0, 0, 1), SplitTowers.BAD_VALUE);
        CHECK.due("seen(0, 0, -1)", x.seen(0, 0, -1), SplitTowers.BAD_VALUE);
        CHECK.due("seen(0, 2, 0)", x.seen(0, 2, 0), SplitTowers.UNKNOWN);
        CHECK.due("seen(6, 0, -1)", x.seen(6, 0, -1), SplitTowers.UNKNOWN);
        SplitTowers y = Check.withModulus(5, "0,4,0,1");
        Check.assign(y, "a=x^2+3*x+0/x");
        CHECK.row("seen(0, 1, ..)", k -> y.seen(0, 1, k), 1, 3);
        CHECK.due("seen(0, 0, 0)", y.seen(0, 0, 0), 0);
    }

    private static void kind() {
        SplitTowers x = Check.withModulus(5, "0,4,0,1");
        Check.assign(x, "a=x");
        Check.assign(x, "b=x^2+1");
        CHECK.due("kind(0, 0)", x.kind(0, 0), 2);
        CHECK.due("kind(1, 0)", x.kind(1, 0), 1);
        CHECK.due("kind(2, 0)", x.kind(2, 0), 0);
        x.part(0);
        CHECK.due("kind(0, 0)", x.kind(0, 0), 0);
        CHECK.due("kind(0, 1)", x.kind(0, 1), 1);
        CHECK.due("kind(0, 2)", x.kind(0, 2), SplitTowers.UNKNOWN);
        CHECK.due("kind(0, -1)", x.kind(0, -1), SplitTowers.UNKNOWN);
    }

    private static void unit() {
        SplitTowers x = parted();
        CHECK.row("unit(0, ..)", k -> x.unit(0, k), 3, 2);
        CHECK.row("unit(1, ..)", k -> x.unit(1, k), 3, 3);
        CHECK.due("unit(0, 2)", x.unit(0, 2), SplitTowers.BAD_VALUE);
        CHECK.due("unit(0, -1)", x.unit(0, -1), SplitTowers.BAD_VALUE);
        CHECK.due("unit(2, -1)", x.unit(2, -1), SplitTowers.UNKNOWN);
        CHECK.due("unit(-1, 0)", x.unit(-1, 0), SplitTowers.UNKNOWN);
        x.join(0, 1);
        CHECK.row("unit of the one branch", k -> x.unit(0, k), 1, 0);
    }

    private static void power() {
        SplitTowers x = Check.withModulus(2, "1,1,0,1");
        Check.assign(x, "a=x");
        CHECK.row("to the power 0", k -> x.power(0, 0, k), 1, 0, 0);
        CHECK.row("to the power 1", k -> x.power(0, 1, k), 0, 1, 0);
        CHECK.row("to the power 3", k -> x.power(0, 3, k), 1, 1, 0);
        CHECK.row("to the power 7", k -> x.power(0, 7, k), 1, 0, 0);
        CHECK.row("to the power 999999", k -> x.power(0, 999999, k), 1, 0, 0);
        CHECK.row("to the power 1000000", k -> x.power(0, 1000000, k), 0, 1, 0);
        CHECK.row("0 to the power 0", k -> x.power(1, 0, k), 1, 0, 0);
        CHECK.row("0 to the power 5", k -> x.power(1, 5, k), 0, 0, 0);
        CHECK.due("power(0, 1000001, 0)", x.power(0, 1000001, 0), SplitTowers.BAD_VALUE);
        CHECK.due("power(0, -1, 0)", x.power(0, -1, 0), SplitTowers.BAD_VALUE);
        CHECK.due("power(0, 1, 3)", x.power(0, 1, 3), SplitTowers.BAD_VALUE);
        CHECK.due("power(0, 1, -1)", x.power(0, 1, -1), SplitTowers.BAD_VALUE);
        CHECK.due("power(6, -1, -1)", x.power(6, -1, -1), SplitTowers.UNKNOWN);
        CHECK.number(x, 0, 0, 1, 0);
    }

    private static void least(SplitTowers x, int register, int... want) {
        CHECK.row("leastPolynomial(" + register + ", ..)", k -> x.leastPolynomial(register, k), want);
        CHECK.due("beyond its degree", x.leastPolynomial(register, want.length), SplitTowers.NONE);
        CHECK.due("far beyond", x.leastPolynomial(register, Integer.MAX_VALUE), SplitTowers.NONE);
        CHECK.due("negative", x.leastPolynomial(register, -1), SplitTowers.BAD_VALUE);
    }

    private static void leastPolynomial() {
        SplitTowers x = Check.withModulus(2, "1,1,0,1");
        Check.assign(x, "a=x");
        Check.assign(x, "b=1");
        Check.assign(x, "d=x+1");
        least(x, 0, 1, 1, 0, 1);
        least(x, 1, 1, 1);
        least(x, 2, 0, 1);
        least(x, 3, 1, 0, 1, 1);
        SplitTowers y = Check.withModulus(5, "4,0,1");
        Check.assign(y, "a=x");
        Check.assign(y, "b=2");
        Check.assign(y, "c=2*x+3");
        least(y, 0, 4, 0, 1);
        least(y, 1, 3, 1);
        least(y, 2, 0, 4, 1);
        SplitTowers z = Check.withModulus(7, "6,0,0,0,0,0,1");
        Check.assign(z, "a=x");
        Check.assign(z, "b=x^3");
        Check.assign(z, "c=x^2");
        least(z, 0, 6, 0, 0, 0, 0, 0, 1);
        least(z, 1, 6, 0, 1);
        least(z, 2, 6, 0, 0, 1);
        CHECK.due("leastPolynomial(6, -1)", z.leastPolynomial(6, -1), SplitTowers.UNKNOWN);
    }

    private static void trace() {
        SplitTowers x = Check.withModulus(5, "3,3,1");
        CHECK.due("trace of 0", x.trace(0), 0);
        Check.assign(x, "a=x");
        Check.assign(x, "b=x^2");
        Check.assign(x, "c=4");
        CHECK.due("trace of x", x.trace(0), 2);
        CHECK.due("trace of x^2", x.trace(1), 3);
        CHECK.due("trace of 4", x.trace(2), 3);
        SplitTowers y = Check.withModulus(2, "1,1,0,1");
        Check.assign(y, "a=1");
        CHECK.due("trace of 1", y.trace(0), 1);
    }

    private static void order() {
        SplitTowers x = Check.withModulus(5, "4,0,1");
        CHECK.due("order of 0", x.order(0), SplitTowers.NONE);
        int[] orders = {1, 4, 4, 2};
        for (int k = 1; k <= 4; k++) {
            Check.assign(x, "a=" + k);
            CHECK.due("order of " + k, x.order(0), orders[k - 1]);
        }
        Check.assign(x, "a=x");
        CHECK.due("order of x", x.order(0), 2);
        Check.assign(x, "a=x-1");
        CHECK.due("order of x-1", x.order(0), SplitTowers.NONE);
        SplitTowers y = Check.withModulus(2, "1,1,0,1");
        Check.assign(y, "a=x");
        CHECK.due("order of x", y.order(0), 7);
        SplitTowers z = Check.withModulus(2, "1,1,0,0,0,0,1");
        Check.assign(z, "a=x");
        Check.assign(z, "b=x^9");
        CHECK.due("order of x", z.order(0), 63);
        CHECK.due("order of x^9", z.order(1), 7);
        SplitTowers w = Check.withModulus(13, "11,0,0,0,0,0,1");
        Check.assign(w, "a=x");
        // x^6 is 2, the order of which is 12.
        CHECK.due("order of x", w.order(0), 72);
        SplitTowers v = Check.withModulus(2, "1,0,0,0,1,1");
        Check.assign(v, "a=x");
        CHECK.due("order of x over two fields", v.order(0), 21);
    }

    private static void factors() {
        SplitTowers x = Check.withModulus(2, "0,1,0,0,0,1,1");
        CHECK.row("factors(..)", x::factors, SplitTowers.BAD_VALUE, 1, 1, 1, 0, 0, 0, SplitTowers.BAD_VALUE);
        CHECK.due("factors(-1)", x.factors(-1), SplitTowers.BAD_VALUE);
        CHECK.due("factors(MIN)", x.factors(Integer.MIN_VALUE), SplitTowers.BAD_VALUE);
        CHECK.due("factors(MAX)", x.factors(Integer.MAX_VALUE), SplitTowers.BAD_VALUE);
        SplitTowers y = Check.withModulus(7, "6,0,0,0,0,0,1");
        CHECK.row("factors(..)", y::factors, SplitTowers.BAD_VALUE, 6, 0, 0, 0, 0, 0);
        SplitTowers z = Check.withModulus(5, "4,0,0,0,0,0,1");
        CHECK.row("factors(..)", z::factors, SplitTowers.BAD_VALUE, 2, 2, 0, 0, 0, 0);
        SplitTowers w = Check.withModulus(2, "1,1,0,0,0,0,1");
        CHECK.row("factors(..)", w::factors, SplitTowers.BAD_VALUE, 0, 0, 0, 0, 0, 1);
    }

    private static void count() {
        SplitTowers x = Check.withModulus(7, "0,6,0,0,0,1");
        CHECK.row("count(..)", x::count, 7, 5, 1, 4, 5, 6, 2, 11);
        Check.assign(x, "a=1/x");
        Check.assign(x, "f=3");
        CHECK.row("count(..)", x::count, 7, 5, 2, 4, 4, 4, 4, 3);
        CHECK.due("count(3)", Check.withModulus(2, "1,1,0,0,0,0,1").count(3), 1);
        CHECK.due("count(8)", x.count(8), SplitTowers.BAD_VALUE);
        CHECK.due("count(-1)", x.count(-1), SplitTowers.BAD_VALUE);
        CHECK.due("count(MAX)", x.count(Integer.MAX_VALUE), SplitTowers.BAD_VALUE);
        CHECK.due("count(MIN)", x.count(Integer.MIN_VALUE), SplitTowers.BAD_VALUE);
    }

    private static void unknownRegisters() {
        SplitTowers x = parted();
        for (int no : NO_REGISTERS) {
            CHECK.due("number(" + no + ", 0)", x.number(no, 0), SplitTowers.UNKNOWN);
            CHECK.due("seen(" + no + ", 0, 0)", x.seen(no, 0, 0), SplitTowers.UNKNOWN);
            CHECK.due("kind(" + no + ", 0)", x.kind(no, 0), SplitTowers.UNKNOWN);
            CHECK.due("kind(0, " + no + ")", x.kind(0, no), SplitTowers.UNKNOWN);
            CHECK.due("power(" + no + ", 0, 0)", x.power(no, 0, 0), SplitTowers.UNKNOWN);
            CHECK.due("leastPolynomial(" + no + ", 0)", x.leastPolynomial(no, 0), SplitTowers.UNKNOWN);
            CHECK.due("trace(" + no + ")", x.trace(no), SplitTowers.UNKNOWN);
            CHECK.due("order(" + no + ")", x.order(no), SplitTowers.UNKNOWN);
        }
    }

    private static void nothingIsRecorded() {
        SplitTowers x = parted();
        int states = x.count(6);
        x.modulus(0);
        x.number(0, 0);
        x.branch(0, 0);
        x.seen(0, 0, 0);
        x.kind(0, 0);
        x.unit(0, 0);
        x.power(0, 2, 0);
        x.leastPolynomial(0, 0);
        x.trace(0);
        x.order(0);
        x.factors(1);
        CHECK.due("count(6)", x.count(6), states);
        CHECK.number(x, 0, 0, 1);
        CHECK.due("count(2)", x.count(2), 2);
    }
}
