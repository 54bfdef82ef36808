/** The edges of promises 16 to 27, what is told: a sentence of the document each. */
public final class ToldEdgesTest {
    private static final Check CHECK = new Check("ToldEdgesTest");
    private static final int FAR = Integer.MAX_VALUE;
    private static final int LOW = Integer.MIN_VALUE;
    /** A modulus of each degree over 7; that of degree 6 has the roots 1 to 6. */
    private static final String[] MODULI = {"4,1", "0,1,1", "0,6,0,1", "6,0,0,0,1", "0,6,0,0,0,1", "6,0,0,0,0,0,1"};

    /** How many irreducible factors they have: x^4 - 1 is (x^2 + 1)(x + 1)(x - 1), and x^5 - x is this times x. */
    private static final int[] FACTORS = {1, 2, 3, 3, 4, 6};

    public static void main(String[] args) {
        modulusToItsDegree();
        numbersBelowTheDegree();
        branchesToTheirDegrees();
        seenBelowTheDegreeOfTheBranch();
        kindsInBranches();
        unitsOfBranches();
        unitsBelowTheDegree();
        exponents();
        powersBelowTheDegree();
        leastPolynomialToItsDegree();
        leastPolynomials();
        traces();
        registersOfTracesAndOrders();
        ordersThatThereAre();
        ordersThatThereAreNot();
        factorsOfDegreesOneToSix();
        countsFromZeroToSeven();
        greatestAndLeastCounts();
        CHECK.done();
    }

    /** The modulus with the roots 1 to 6 over 7, in as many branches as asked for; they are in the order of 6 to 1. */
    private static SplitTowers inBranches(int branches) {
        SplitTowers x = Check.withModulus(7, MODULI[5]);
        for (int root = 6; root > 7 - branches; root--) {
            Check.assign(x, "a=0/(x-" + root + ")");
        }
        CHECK.due("count(2)", x.count(2), branches);
        return x;
    }

    private static void modulusToItsDegree() {
        CHECK.sentence("BAD_VALUE if number is negative; NONE if it is greater than the degree");
        for (int degree = 1; degree <= 6; degree++) {
            SplitTowers x = Check.withModulus(7, MODULI[degree - 1]);
            String[] told = MODULI[degree - 1].split(",");
            for (int k = 0; k <= degree; k++) {
                CHECK.due("modulus(" + k + ")", x.modulus(k), Integer.parseInt(told[k]));
            }
            for (int no : new int[] {degree + 1, degree + 2, 12, 13, FAR}) {
                CHECK.due("modulus(" + no + ")", x.modulus(no), SplitTowers.NONE);
            }
            CHECK.due("modulus(-1)", x.modulus(-1), SplitTowers.BAD_VALUE);
            CHECK.due("modulus(MIN)", x.modulus(LOW), SplitTowers.BAD_VALUE);
        }
    }

    private static void numbersBelowTheDegree() {
        CHECK.sentence("number: 0 to the degree of f less 1");
        for (int degree = 1; degree <= 6; degree++) {
            SplitTowers x = Check.withModulus(7, MODULI[degree - 1]);
            x.setNumber(5, degree - 1, 6);
            for (int k = 0; k < degree; k++) {
                CHECK.due("number(5, " + k + ")", x.number(5, k), k == degree - 1 ? 6 : 0);
                CHECK.due("number(0, " + k + ")", x.number(0, k), 0);
            }
            for (int no : new int[] {-1, degree, degree + 1, 12, 13, FAR, LOW}) {
                CHECK.due("number(5, " + no + ")", x.number(5, no), SplitTowers.BAD_VALUE);
                CHECK.due("number(6, " + no + ")", x.number(6, no), SplitTowers.UNKNOWN);
                CHECK.due("number(-1, " + no + ")", x.number(-1, no), SplitTowers.UNKNOWN);
            }
        }
    }

    private static void branchesToTheirDegrees() {
        CHECK.sentence("Returns the coefficient of the branch; UNKNOWN; BAD_VALUE if number is negative; NONE");
        for (int branches = 1; branches <= 6; branches++) {
            SplitTowers x = inBranches(branches);
            for (int k = 0; k < branches; k++) {
                int degree = k < branches - 1 ? 1 : 7 - branches;
                CHECK.due("branch at its degree", x.branch(k, degree), 1);
                CHECK.due("branch behind its degree", x.branch(k, degree + 1), SplitTowers.NONE);
                CHECK.due("branch far behind", x.branch(k, FAR), SplitTowers.NONE);
                CHECK.due("branch(.., -1)", x.branch(k, -1), SplitTowers.BAD_VALUE);
                CHECK.due("branch(.., MIN)", x.branch(k, LOW), SplitTowers.BAD_VALUE);
            }
            for (int no : new int[] {-1, branches, 6, 7, FAR, LOW}) {
                CHECK.due("branch(" + no + ", 0)", x.branch(no, 0), SplitTowers.UNKNOWN);
                CHECK.due("branch(" + no + ", -1)", x.branch(no, -1), SplitTowers.UNKNOWN);
            }
        }
    }

    private static void seenBelowTheDegreeOfTheBranch() {
        CHECK.sentence("number: 0 to the degree of the branch less 1");
        for (int branches = 1; branches <= 6; branches++) {
            SplitTowers x = inBranches(branches);
            Check.assign(x, "f=x^" + (6 - branches));
            for (int k = 0; k < branches; k++) {
                int degree = k < branches - 1 ? 1 : 7 - branches;
                CHECK.that("seen below the degree", x.seen(5, k, degree - 1) >= 0);
                for (int no : new int[] {-1, degree, degree + 1, 13, FAR, LOW}) {
                    CHECK.due("seen(5, " + k + ", " + no + ")", x.seen(5, k, no), SplitTowers.BAD_VALUE);
                }
            }
            // x to the power 6 - branches is of a lesser degree than the last branch, the one of degree 7 - branches.
            CHECK.due("seen in the last one", x.seen(5, branches - 1, 6 - branches), 1);
            for (int no : new int[] {-1, branches, 6, FAR, LOW}) {
                CHECK.due("seen(0, " + no + ", 0)", x.seen(0, no, 0), SplitTowers.UNKNOWN);
                CHECK.due("seen(0, " + no + ", -1)", x.seen(0, no, -1), SplitTowers.UNKNOWN);
            }
            for (int no : new int[] {-1, 6, FAR, LOW}) {
                CHECK.due("seen(" + no + ", 0, 0)", x.seen(no, 0, 0), SplitTowers.UNKNOWN);
            }
        }
        SplitTowers y = inBranches(6);
        Check.assign(y, "b=x^2");
        CHECK.row("seen(1, .., 0)", k -> y.seen(1, k, 0), 1, 4, 2, 2, 4, 1);
        SplitTowers z = inBranches(3);
        Check.assign(z, "b=x^4");
        // (x-1)(x-2)(x-3)(x-4) is x^4 - 10x^3 + 35x^2 - 50x + 24.
        CHECK.row("seen(1, 2, ..)", k -> z.seen(1, 2, k), 4, 1, 0, 3);
        CHECK.number(z, 1, 0, 0, 0, 0, 1, 0);
    }

    private static void kindsInBranches() {
        CHECK.sentence("Returns 0 if the number is nothing in the branch, 1 if it can be inverted there, 2 otherwise");
        for (int branches = 1; branches <= 6; branches++) {
            SplitTowers x = inBranches(branches);
            int last = branches - 1;
            Check.assign(x, "f=x-1");
            CHECK.due("one root", x.kind(5, last), branches == 6 ? 0 : 2);
            Check.assign(x, "f=x");
            CHECK.due("no root", x.kind(5, last), 1);
            Check.assign(x, "f=x^6-1");
            CHECK.due("all roots", x.kind(5, last), 0);
            Check.assign(x, "f=(x-2)*(x-3)*(x-4)*(x-5)*(x-6)");
            CHECK.due("all roots but one", x.kind(5, last), branches == 6 ? 1 : 2);
            for (int no : new int[] {-1, branches, 6, FAR, LOW}) {
                CHECK.due("kind(0, " + no + ")", x.kind(0, no), SplitTowers.UNKNOWN);
            }
            for (int no : new int[] {-1, 6, FAR, LOW}) {
                CHECK.due("kind(" + no + ", 0)", x.kind(no, 0), SplitTowers.UNKNOWN);
            }
        }
    }

    private static void unitsOfBranches() {
        CHECK.sentence("Tells the number that is 1 in a branch, and nothing in all others");
        for (int branches = 1; branches <= 6; branches++) {
            for (int branch = 0; branch < branches; branch++) {
                SplitTowers x = inBranches(branches);
                for (int k = 0; k < 6; k++) {
                    x.setNumber(1, k, x.unit(branch, k));
                }
                for (int k = 0; k < branches; k++) {
                    CHECK.due("seen at 0", x.seen(1, k, 0), k == branch ? 1 : 0);
                    for (int n = 1; n < 7 - branches && k == branches - 1; n++) {
                        CHECK.due("seen at " + n, x.seen(1, k, n), 0);
                    }
                }
            }
        }
    }

    private static void unitsBelowTheDegree() {
        CHECK.sentence("number: 0 to the degree of f less 1");
        for (int degree = 1; degree <= 6; degree++) {
            SplitTowers x = Check.withModulus(7, MODULI[degree - 1]);
            for (int k = 0; k < degree; k++) {
                CHECK.due("unit(0, " + k + ")", x.unit(0, k), k == 0 ? 1 : 0);
            }
            for (int no : new int[] {-1, degree, degree + 1, 13, FAR, LOW}) {
                CHECK.due("unit(0, " + no + ")", x.unit(0, no), SplitTowers.BAD_VALUE);
                CHECK.due("unit(1, " + no + ")", x.unit(1, no), SplitTowers.UNKNOWN);
                CHECK.due("unit(-1, " + no + ")", x.unit(-1, no), SplitTowers.UNKNOWN);
            }
        }
        SplitTowers y = inBranches(6);
        CHECK.that("the last one of six", y.unit(5, 5) >= 0);
        CHECK.due("one more than six", y.unit(6, 5), SplitTowers.UNKNOWN);
    }

    private static void exponents() {
        CHECK.sentence("exponent: 0 to 1000000");
        SplitTowers x = Check.withModulus(13, "0,12,0,1");
        Check.assign(x, "a=2");
        Check.assign(x, "b=x");
        // The order of 2 is 12, and 1000000 is 4 modulo 12.
        int[] exponents = {0, 1, 2, 11, 12, 13, 999999, 1000000};
        int[] powers = {1, 2, 4, 7, 1, 2, 8, 3};
        for (int k = 0; k < exponents.length; k++) {
            int exponent = exponents[k];
            CHECK.row("power(0, " + exponent + ", ..)", n -> x.power(0, exponent, n), powers[k], 0, 0);
            CHECK.row("power(5, " + exponent + ", ..)", n -> x.power(5, exponent, n), exponent == 0 ? 1 : 0, 0, 0);
            int odd = exponent % 2;
            int even = exponent > 0 ? 1 - odd : 0;
            CHECK.row("power(1, " + exponent + ", ..)", n -> x.power(1, exponent, n), exponent == 0 ? 1 : 0, odd, even);
        }
        for (int no : new int[] {-1, -2, 1000001, 1000012, FAR, LOW}) {
            CHECK.due("power(0, " + no + ", 0)", x.power(0, no, 0), SplitTowers.BAD_VALUE);
            CHECK.due("power(5, " + no + ", 0)", x.power(5, no, 0), SplitTowers.BAD_VALUE);
            CHECK.due("power(6, " + no + ", 0)", x.power(6, no, 0), SplitTowers.UNKNOWN);
        }
        CHECK.sentence("the number to the power of the exponent (1, if this is 0)");
        SplitTowers y = new SplitTowers();
        CHECK.due("0 to the power 0", y.power(0, 0, 0), 1);
        CHECK.due("0 to the power 1", y.power(0, 1, 0), 0);
    }

    private static void powersBelowTheDegree() {
        CHECK.sentence("Returns the coefficient of the number to the power of the exponent");
        for (int degree = 1; degree <= 6; degree++) {
            SplitTowers x = Check.withModulus(7, MODULI[degree - 1]);
            x.setNumber(2, 0, 3);
            CHECK.due("power(2, 6, 0)", x.power(2, 6, 0), 1);
            CHECK.due("power(2, 5, degree - 1)", x.power(2, 5, degree - 1), degree == 1 ? 5 : 0);
            for (int no : new int[] {-1, degree, degree + 1, 13, FAR, LOW}) {
                CHECK.due("power(2, 1, " + no + ")", x.power(2, 1, no), SplitTowers.BAD_VALUE);
                CHECK.due("power(2, 0, " + no + ")", x.power(2, 0, no), SplitTowers.BAD_VALUE);
                CHECK.due("power(-1, 1, " + no + ")", x.power(-1, 1, no), SplitTowers.UNKNOWN);
            }
        }
    }

    private static void least(SplitTowers x, String number, int... want) {
        Check.assign(x, "a=" + number);
        CHECK.row("leastPolynomial of " + number, k -> x.leastPolynomial(0, k), want);
        for (int no : new int[] {want.length, want.length + 1, 13, FAR}) {
            CHECK.due("beyond that of " + number, x.leastPolynomial(0, no), SplitTowers.NONE);
        }
    }

    private static void leastPolynomialToItsDegree() {
        CHECK.sentence("BAD_VALUE if number is negative; NONE if it is greater than its degree");
        SplitTowers x = Check.withModulus(7, MODULI[5]);
        least(x, "0", 0, 1);
        least(x, "1", 6, 1);
        least(x, "x^3", 6, 0, 1);
        least(x, "x^2", 6, 0, 0, 1);
        least(x, "x", 6, 0, 0, 0, 0, 0, 1);
        for (int no : new int[] {-1, -2, LOW}) {
            CHECK.due("leastPolynomial(0, " + no + ")", x.leastPolynomial(0, no), SplitTowers.BAD_VALUE);
            CHECK.due("leastPolynomial(6, " + no + ")", x.leastPolynomial(6, no), SplitTowers.UNKNOWN);
        }
        for (int no : new int[] {-1, 6, FAR, LOW}) {
            CHECK.due("leastPolynomial(" + no + ", 0)", x.leastPolynomial(no, 0), SplitTowers.UNKNOWN);
            CHECK.due("leastPolynomial(" + no + ", 99)", x.leastPolynomial(no, 99), SplitTowers.UNKNOWN);
        }
    }

    private static void leastPolynomials() {
        CHECK.sentence("the monic polynomial of the least degree that is 0 if the number is put in the place of x");
        SplitTowers x = new SplitTowers();
        least(x, "0", 0, 1);
        least(x, "3", 2, 1);
        least(x, "x", 0, 1);
        SplitTowers y = Check.withModulus(7, "6,0,0,0,1");
        // x^4 - 1 is (x-1)(x+1)(x^2+1); x^2 is 1, 1 and -1 there, and 2x is 2, 5 and a root of x^2+4.
        least(y, "x^2", 6, 0, 1);
        least(y, "2*x", 5, 0, 0, 0, 1);
        least(y, "x^2+1", 0, 5, 1);
        // It is 4 at 1 and 0 in all other branches.
        least(y, "(x+1)*(x^2+1)", 0, 3, 1);
        // 1 + x is 2, 0 and a root of x^2-2x+2 there.
        least(y, "1+x", 0, 3, 6, 3, 1);
        SplitTowers z = Check.withModulus(2, "1,1,0,0,0,0,1");
        // x^21 is a root of x^2+x+1, and x^9 is one of x^3+x^2+1 or of its mirror.
        least(z, "(x^7)^3", 1, 1, 1);
        CHECK.due("the degree of that of x^9", Check.assign(z, "a=x^9"), 1);
        CHECK.due("at 3", z.leastPolynomial(0, 3), 1);
        CHECK.due("at 4", z.leastPolynomial(0, 4), SplitTowers.NONE);
        least(z, "x", 1, 1, 0, 0, 0, 0, 1);
    }

    private static void traces() {
        CHECK.sentence("Returns the trace, 0 to p - 1");
        for (int prime : new int[] {2, 3, 5, 7, 11, 13}) {
            SplitTowers x = new SplitTowers();
            x.setPrime(prime);
            for (int value = 0; value < prime; value++) {
                Check.assign(x, "a=0-1");
                x.setNumber(0, 0, value);
                CHECK.due("trace of " + value, x.trace(0), value);
            }
            tracesInDegree(x, "0,1,1", 2, prime - 1, 1);
            tracesInDegree(x, "1,1,0,1", 3, 0, (2 * prime - 2) % prime);
        }
        SplitTowers y = inBranches(1);
        CHECK.due("trace of 0", y.trace(1), 0);
        Check.assign(y, "b=6");
        CHECK.due("trace of 6", y.trace(1), 1);
        Check.assign(y, "b=x^5");
        CHECK.due("trace of x^5", y.trace(1), 0);
        Check.assign(y, "b=1+x+x^2+x^3+x^4+x^5");
        CHECK.due("trace of all", y.trace(1), 6);
    }

    private static void tracesInDegree(SplitTowers x, String modulus, int degree, int ofVariable, int ofSquare) {
        int prime = x.count(0);
        CHECK.due("readModulus of " + modulus, Check.readModulus(x, modulus), degree);
        Check.assign(x, "a=1");
        CHECK.due("trace of 1 over " + prime, x.trace(0), degree % prime);
        Check.assign(x, "a=0-1");
        CHECK.due("trace of -1 over " + prime, x.trace(0), (2 * prime - degree) % prime);
        Check.assign(x, "a=x");
        CHECK.due("trace of x over " + prime, x.trace(0), ofVariable);
        Check.assign(x, "a=x*x");
        CHECK.due("trace of x^2 over " + prime, x.trace(0), ofSquare);
    }

    private static void registersOfTracesAndOrders() {
        CHECK.sentence("register: 0 to 5");
        SplitTowers x = new SplitTowers();
        for (int k = 0; k < 6; k++) {
            x.setNumber(k, 0, 4);
            CHECK.due("trace(" + k + ")", x.trace(k), 4);
            CHECK.due("order(" + k + ")", x.order(k), 2);
            CHECK.due("kind(" + k + ", 0)", x.kind(k, 0), 1);
            CHECK.due("seen(" + k + ", 0, 0)", x.seen(k, 0, 0), 4);
            CHECK.due("power(" + k + ", 1, 0)", x.power(k, 1, 0), 4);
            CHECK.due("leastPolynomial(" + k + ", 0)", x.leastPolynomial(k, 0), 1);
        }
        for (int no : new int[] {-1, 6, 7, FAR, LOW}) {
            CHECK.due("trace(" + no + ")", x.trace(no), SplitTowers.UNKNOWN);
            CHECK.due("order(" + no + ")", x.order(no), SplitTowers.UNKNOWN);
            CHECK.due("leastPolynomial(" + no + ", 0)", x.leastPolynomial(no, 0), SplitTowers.UNKNOWN);
            CHECK.due("power(" + no + ", 0, 0)", x.power(no, 0, 0), SplitTowers.UNKNOWN);
        }
    }

    private static void order(SplitTowers x, String number, int want) {
        Check.assign(x, "a=" + number);
        CHECK.due("order of " + number, x.order(0), want);
    }

    private static void ordersThatThereAre() {
        CHECK.sentence("Returns the least exponent above 0 with which the number to its power is 1");
        SplitTowers x = new SplitTowers();
        order(x, "1", 1);
        order(x, "2", 4);
        order(x, "4", 2);
        x.setPrime(2);
        order(x, "1", 1);
        x.setPrime(3);
        order(x, "1", 1);
        order(x, "2", 2);
        x.setPrime(13);
        int[] orders = {1, 12, 3, 6, 4, 12, 12, 4, 3};
        for (int k = 1; k <= 9; k++) {
            order(x, "" + k, orders[k - 1]);
        }
        order(x, "0-1", 2);
        SplitTowers y = inBranches(1);
        order(y, "x", 6);
        order(y, "x^2", 3);
        order(y, "x^3", 2);
        order(y, "1", 1);
        SplitTowers z = Check.withModulus(2, "1,1,0,0,0,0,1");
        order(z, "x", 63);
        order(z, "x+1", 21);
        order(z, "x^9", 7);
        SplitTowers w = Check.withModulus(2, "1,1,1,1,0,1,1");
        order(w, "x", 31);
        ordersInSeveralFields();
        // The greatest that there can be, 13^6 - 1, which is greater than the exponents of powers may be.
        SplitTowers v = Check.withModulus(13, "4,1,0,0,0,0,1");
        order(v, "x", 2413404);
        order(v, "x+3", 4826808);
        order(v, "x+4", 201117);
    }

    /** The order is the least multiple of those in the fields, which have 3 and 7, 31 and 1, and 24 and 4 numbers but 0. */
    private static void ordersInSeveralFields() {
        SplitTowers x = Check.withModulus(2, "1,0,0,0,1,1");
        order(x, "x", 21);
        order(x, "x^3", 7);
        order(x, "x^7", 3);
        SplitTowers y = Check.withModulus(2, "1,1,1,1,0,1,1");
        order(y, "x", 31);
        SplitTowers z = Check.withModulus(5, "2,3,4,1");
        // x is 1 in the branch x+4, and x^2 is 2 in the other one.
        order(z, "x", 8);
        order(z, "x^2", 4);
        order(z, "x^4", 2);
        order(z, "2*x", 8);
        // It is 1 in the branch x+4, and 2x-1 in the other one.
        order(z, "2*x-1", 24);
    }

    private static void ordersThatThereAreNot() {
        CHECK.sentence("NONE if there is none");
        SplitTowers x = new SplitTowers();
        order(x, "0", SplitTowers.NONE);
        SplitTowers y = inBranches(1);
        for (int root = 1; root <= 6; root++) {
            order(y, "x-" + root, SplitTowers.NONE);
        }
        order(y, "(x-1)*(x-2)*(x-3)*(x-4)*(x-5)", SplitTowers.NONE);
        order(y, "0", SplitTowers.NONE);
        order(y, "x^6-1", SplitTowers.NONE);
        order(y, "x-7", 6);
        SplitTowers z = inBranches(6);
        order(z, "x-3", SplitTowers.NONE);
        order(z, "x", 6);
    }

    private static void factorsOfDegreesOneToSix() {
        CHECK.sentence("degree: 1 to 6");
        int bad = SplitTowers.BAD_VALUE;
        CHECK.row("factors(..)", new SplitTowers()::factors, bad, 1, 0, 0, 0, 0, 0, bad);
        CHECK.row("of degree 6", inBranches(1)::factors, bad, 6, 0, 0, 0, 0, 0, bad);
        CHECK.row("parted", inBranches(6)::factors, bad, 6, 0, 0, 0, 0, 0, bad);
        CHECK.row("whole", Check.withModulus(2, "1,1,0,0,0,0,1")::factors, bad, 0, 0, 0, 0, 0, 1, bad);
        CHECK.row("1 and 5", Check.withModulus(2, "1,1,1,1,0,1,1")::factors, bad, 1, 0, 0, 0, 1, 0, bad);
        CHECK.row("2 and 4", Check.withModulus(2, "1,0,0,1,1,1,1")::factors, bad, 0, 1, 0, 1, 0, 0, bad);
        CHECK.row("3 and 3", Check.withModulus(2, "1,1,1,1,1,1,1")::factors, bad, 0, 0, 2, 0, 0, 0, bad);
        CHECK.row("2, 2 and 2", Check.withModulus(7, "1,0,0,0,0,0,1")::factors, bad, 0, 3, 0, 0, 0, 0, bad);
        CHECK.row("1, 2 and 3", Check.withModulus(2, "0,1,0,0,0,1,1")::factors, bad, 1, 1, 1, 0, 0, 0, bad);
        SplitTowers x = new SplitTowers();
        for (int no : new int[] {-1, 8, FAR, LOW}) {
            CHECK.due("factors(" + no + ")", x.factors(no), bad);
        }
    }

    private static void countsFromZeroToSeven() {
        CHECK.sentence("what: 0 for p, 1 for the degree of f, 2 for branches, 3 for irreducible factors of f");
        SplitTowers x = new SplitTowers();
        CHECK.row("count(..)", x::count, 5, 1, 1, 1, 1, 6, 0, 0, SplitTowers.BAD_VALUE);
        for (int no : new int[] {-1, 8, 9, FAR, LOW}) {
            CHECK.due("count(" + no + ")", x.count(no), SplitTowers.BAD_VALUE);
        }
        String[] ofTwo = {"0,1", "1,1,1", "1,1,0,1", "1,1,0,0,1", "1,0,1,0,0,1", "1,1,0,0,0,0,1"};
        for (int degree = 1; degree <= 6; degree++) {
            CHECK.due("count(3) of an irreducible one", Check.withModulus(2, ofTwo[degree - 1]).count(3), 1);
            CHECK.due("count(3) of several", Check.withModulus(7, MODULI[degree - 1]).count(3), FACTORS[degree - 1]);
        }
        // x(x^2+x+1)(x^3+x+1) over 2, with the branches x and all the rest.
        SplitTowers y = Check.withModulus(2, "0,1,0,0,0,1,1");
        Check.assign(y, "c=1/x");
        CHECK.row("count(..)", y::count, 2, 6, 2, 3, 5, 5, 3, 5, SplitTowers.BAD_VALUE);
    }

    private static void greatestAndLeastCounts() {
        CHECK.sentence("4 for the greatest degree of a branch, 5 for the registers whose numbers are 0");
        for (int branches = 1; branches <= 6; branches++) {
            SplitTowers x = inBranches(branches);
            CHECK.due("count(4)", x.count(4), 7 - branches);
            CHECK.due("count(3)", x.count(3), 6);
        }
        SplitTowers x = Check.withModulus(7, "0,1,1");
        for (int k = 0; k < 6; k++) {
            CHECK.due("count(5)", x.count(5), 6 - k);
            x.setNumber(k, k % 2, 1);
        }
        CHECK.due("count(5)", x.count(5), 0);
        CHECK.sentence("6 for the states in the history, 7 for the length of the text");
        CHECK.due("count(6)", x.count(6), 4);
        Check.text(x, "1".repeat(61));
        CHECK.due("count(7)", x.count(7), 60);
        x.clearText();
        CHECK.due("count(7)", x.count(7), 0);
        for (int degree = 1; degree <= 6; degree++) {
            CHECK.due("count(1)", Check.withModulus(7, MODULI[degree - 1]).count(1), degree);
        }
    }
}
