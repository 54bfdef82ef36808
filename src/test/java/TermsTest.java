import java.util.ArrayList;
import java.util.Arrays;
import java.util.List;

/** The part "Terms" of the document to the end of "Quotients": each sentence that an answer can show, in their order. */
public final class TermsTest {
    private static final Check CHECK = new Check("TermsTest");
    private static final int[] PRIMES = {2, 3, 5, 7, 11, 13};

    /** Primes and moduli that have factors of several degrees. */
    private static final int[] SOME_PRIMES = {5, 7, 2, 13, 3};
    private static final String[] SOME_MODULI = {"0,1,1,0,0,1,1", "6,0,0,0,0,0,1", "0,1,0,0,0,1,1", "0,12,0,0,0,0,1",
        "0,1,2,1,0,0,1"};
    private static final String[] SOME_NUMBERS = {"x", "x^2+x", "x^2-1", "0", "x^3+2", "x^4+x+1", "2", "x^5+3*x"};

    public static void main(String[] args) {
        primes();
        coefficients();
        degreeOfNothing();
        monic();
        moduli();
        numbers();
        registers();
        branches();
        oneBranch();
        rests();
        nothingAndInverted();
        partedByANumber();
        nothingOrInvertedThen();
        partedByDegrees();
        partedByTheDivisor();
        quotients();
        CHECK.done();
    }

    // ---- polynomials, as rows with their greatest coefficient at the end

    private static int[] row(Check.Told told) {
        int[] row = new int[0];
        for (int k = 0; k <= 7 && told.at(k) >= 0; k++) {
            row = Arrays.copyOf(row, k + 1);
            row[k] = told.at(k);
        }
        return row;
    }

    private static int[] times(int prime, int[] one, int[] other) {
        int[] product = new int[one.length + other.length - 1];
        for (int i = 0; i < one.length; i++) {
            for (int k = 0; k < other.length; k++) {
                product[i + k] = (product[i + k] + one[i] * other[k]) % prime;
            }
        }
        return product;
    }

    /** The rest by a polynomial, made monic; nothing is a row of no coefficients. */
    private static int[] rest(int prime, int[] number, int[] by) {
        int[] left = number.clone();
        for (int end = left.length - 1; end >= by.length - 1; end--) {
            int factor = left[end];
            for (int k = 0; k < by.length; k++) {
                int place = end - by.length + 1 + k;
                left[place] = Math.floorMod(left[place] - factor * by[k], prime);
            }
        }
        return monic(prime, left);
    }

    private static int[] monic(int prime, int[] number) {
        int length = number.length;
        while (length > 0 && number[length - 1] == 0) {
            length--;
        }
        int[] row = Arrays.copyOf(number, length);
        while (length > 0 && row[length - 1] != 1) {
            // What is added again and again runs through all multiples, and comes to 1.
            for (int k = 0; k < length; k++) {
                row[k] = (row[k] + number[k]) % prime;
            }
        }
        return row;
    }

    private static boolean haveACommonFactor(int prime, int[] one, int[] other) {
        int[] upper = one;
        int[] lower = other;
        while (lower.length > 0) {
            int[] left = rest(prime, upper, lower);
            upper = lower;
            lower = left;
        }
        return upper.length > 1;
    }

    // ---- polynomials

    private static void primes() {
        CHECK.sentence("There is a prime p (2, 3, 5, 7, 11 or 13; at first 5).");
        CHECK.due("count(0) at first", new SplitTowers().count(0), 5);
        for (int prime = -20; prime <= 30; prime++) {
            int wanted = prime;
            boolean one = Arrays.stream(PRIMES).anyMatch(known -> known == wanted);
            SplitTowers x = new SplitTowers();
            int answer = x.setPrime(prime);
            CHECK.due("setPrime(" + prime + ")", answer, !one ? SplitTowers.BAD_VALUE : prime == 5 ? SplitTowers.NONE : 5);
            CHECK.due("count(0) after setPrime(" + prime + ")", x.count(0), one ? prime : 5);
        }
    }

    private static void coefficients() {
        CHECK.sentence("A polynomial has coefficients from 0 to p - 1, and is reckoned with modulo p; "
            + "the coefficient of x to the power k is told as that with the number k.");
        SplitTowers x = Check.withModulus(5, "4,0,3,1");
        CHECK.modulus(x, 4, 0, 3, 1);
        CHECK.branch(x, 0, 4, 0, 3, 1);
        Check.assign(x, "a=2*x^2+4*x+3");
        CHECK.number(x, 0, 3, 4, 2);
        Check.assign(x, "b=a+a");
        CHECK.number(x, 1, 1, 3, 4);
        Check.assign(x, "b=0-a");
        CHECK.number(x, 1, 2, 1, 3);
        Check.assign(x, "b=9*a");
        CHECK.number(x, 1, 2, 1, 3);
        CHECK.due("setNumber(0, 0, 5)", x.setNumber(0, 0, 5), SplitTowers.BAD_VALUE);
        CHECK.due("setNumber(0, 0, -1)", x.setNumber(0, 0, -1), SplitTowers.BAD_VALUE);
    }

    private static void degreeOfNothing() {
        CHECK.sentence("The degree of the polynomial 0 is -1.");
        // 0 is of a lesser degree than each f, also than one of degree 1; a constant that is not 0 is not nothing there.
        for (int prime : PRIMES) {
            SplitTowers x = new SplitTowers();
            x.setPrime(prime);
            CHECK.due("kind of 0", x.kind(0, 0), 0);
            CHECK.due("readModulus of 0", Check.readModulus(x, "0"), SplitTowers.BAD_VALUE);
            CHECK.row("leastPolynomial of 0", k -> x.leastPolynomial(0, k), 0, 1, SplitTowers.NONE);
            x.setNumber(0, 0, 1);
            CHECK.due("kind of 1", x.kind(0, 0), 1);
        }
    }

    private static void monic() {
        CHECK.sentence("A polynomial is monic if it is not 0 and its greatest coefficient (that of its degree) is 1.");
        for (int prime : PRIMES) {
            for (int greatest = 0; greatest < prime; greatest++) {
                SplitTowers x = new SplitTowers();
                x.setPrime(prime);
                int due = greatest == 1 ? 2 : SplitTowers.BAD_VALUE;
                CHECK.due("0,1," + greatest + " over " + prime, Check.readModulus(x, "0,1," + greatest), due);
            }
        }
    }

    private static void moduli() {
        CHECK.sentence("There is a modulus f, a monic polynomial of a degree from 1 to 6, "
            + "which has no square of a polynomial of degree 1 or more as a factor; at first x.");
        CHECK.modulus(new SplitTowers(), 0, 1);
        int[][] greatestDegrees = {{2, 6}, {3, 6}, {5, 4}, {7, 3}, {11, 3}, {13, 2}};
        for (int[] row : greatestDegrees) {
            int all = 1;
            for (int degree = 1; degree <= row[1]; degree++) {
                all *= row[0];
                // Of the monic ones of a degree above 1, one in p has a square as a factor.
                CHECK.due("moduli of degree " + degree + " over " + row[0], countModuli(row[0], degree, all),
                    degree == 1 ? all : all - all / row[0]);
            }
        }
    }

    private static int countModuli(int prime, int degree, int all) {
        int found = 0;
        for (int code = 0; code < all; code++) {
            StringBuilder text = new StringBuilder();
            for (int left = code, k = 0; k < degree; k++, left /= prime) {
                text.append(left % prime).append(',');
            }
            SplitTowers x = new SplitTowers();
            x.setPrime(prime);
            int answer = Check.readModulus(x, text.append('1').toString());
            boolean first = degree == 1 && code == 0;
            CHECK.that(text + " over " + prime + " is read, refused or there already: " + answer,
                answer == (first ? SplitTowers.NONE : degree) || answer == SplitTowers.NOT_POSSIBLE);
            found += answer == SplitTowers.NOT_POSSIBLE ? 0 : 1;
        }
        return found;
    }

    // ---- numbers

    private static void numbers() {
        CHECK.sentence("A number is a polynomial of a lesser degree than f; "
            + "sums, differences and products are reckoned modulo f.");
        SplitTowers x = Check.withModulus(5, "4,0,3,1");
        // x^3 is 2x^2 + 1, so x^4 is 2x^3 + x, which is 4x^2 + x + 2.
        Check.assign(x, "a=x^3");
        CHECK.number(x, 0, 1, 0, 2);
        Check.assign(x, "b=x*a");
        CHECK.number(x, 1, 2, 1, 4);
        Check.assign(x, "c=a-b");
        CHECK.number(x, 2, 4, 4, 3);
        Check.assign(x, "c=a+b");
        CHECK.number(x, 2, 3, 1, 1);
        CHECK.due("number(0, 3)", x.number(0, 3), SplitTowers.BAD_VALUE);
        CHECK.due("setNumber(0, 3, 1)", x.setNumber(0, 3, 1), SplitTowers.BAD_VALUE);
    }

    private static void registers() {
        CHECK.sentence("There are 6 registers, a to f, numbered 0 to 5, each with a number (at first 0).");
        SplitTowers x = Check.withModulus(11, "3,1");
        for (int k = 0; k < 6; k++) {
            CHECK.number(x, k, 0);
        }
        for (int k = 0; k < 6; k++) {
            Check.assign(x, (char) ('a' + k) + "=" + (k + 4));
        }
        CHECK.row("number(.., 0)", k -> x.number(k, 0), 4, 5, 6, 7, 8, 9);
        CHECK.due("number(6, 0)", x.number(6, 0), SplitTowers.UNKNOWN);
        CHECK.due("number(-1, 0)", x.number(-1, 0), SplitTowers.UNKNOWN);
        CHECK.due("a register g", Check.assign(x, "g=1"), -100);
    }

    // ---- branches

    /** x(x+1)(x^2+2)(x^2+3) over 5, in four branches. */
    private static SplitTowers fourBranches() {
        SplitTowers x = Check.withModulus(5, "0,1,1,0,0,1,1");
        CHECK.due("the branches", Check.assign(x, "a=0/x+0/(x+1)+0/(x^2+2)"), 4);
        return x;
    }

    private static void branches() {
        CHECK.sentence("f is the product of the branches: monic polynomials of degree 1 or more, "
            + "no two of which have a common factor of degree 1 or more, numbered from 0 in their order: "
            + "by their degrees, the least first, then by their coefficients, "
            + "that with the greatest number at which they differ being compared, the lesser one first.");
        SplitTowers x = fourBranches();
        CHECK.branch(x, 0, 0, 1);
        CHECK.branch(x, 1, 1, 1);
        CHECK.branch(x, 2, 2, 0, 1);
        CHECK.branch(x, 3, 3, 0, 1);
        CHECK.due("branch(4, 0)", x.branch(4, 0), SplitTowers.UNKNOWN);
        // x(x^2+2) comes before (x+1)(x^2+3) by the number 2, though not by the number 0 of x^2+3.
        x.join(0, 2);
        CHECK.due("join of x+1 and x^2+3", x.join(0, 1), 1);
        CHECK.branch(x, 0, 0, 2, 0, 1);
        CHECK.branch(x, 1, 3, 3, 1, 1);
        for (int k = 0; k < SOME_PRIMES.length; k++) {
            SplitTowers y = Check.withModulus(SOME_PRIMES[k], SOME_MODULI[k]);
            for (String number : SOME_NUMBERS) {
                Check.assign(y, "a=" + number);
                y.part(0);
                branchesHold(y, SOME_PRIMES[k]);
            }
        }
    }

    private static void branchesHold(SplitTowers x, int prime) {
        List<int[]> all = new ArrayList<>();
        int[] product = {1};
        for (int k = 0; k < x.count(2); k++) {
            int number = k;
            int[] branch = row(place -> x.branch(number, place));
            CHECK.that("a monic branch of degree 1 or more", branch.length > 1 && branch[branch.length - 1] == 1);
            for (int[] other : all) {
                CHECK.that("no common factor", !haveACommonFactor(prime, other, branch));
            }
            CHECK.that("their order", k == 0 || comesBefore(all.get(k - 1), branch));
            all.add(branch);
            product = times(prime, product, branch);
        }
        CHECK.that("f is their product", Arrays.equals(product, row(x::modulus)));
    }

    private static boolean comesBefore(int[] one, int[] other) {
        if (one.length != other.length) {
            return one.length < other.length;
        }
        int place = one.length - 1;
        while (place > 0 && one[place] == other[place]) {
            place--;
        }
        return one[place] < other[place];
    }

    private static void oneBranch() {
        CHECK.sentence("At first, and whenever f becomes another one, there is one branch, f itself.");
        CHECK.branch(new SplitTowers(), 0, 0, 1);
        CHECK.due("count(2) at first", new SplitTowers().count(2), 1);
        SplitTowers x = fourBranches();
        Check.readModulus(x, "0,1,1");
        CHECK.due("count(2) of another one", x.count(2), 1);
        CHECK.branch(x, 0, 0, 1, 1);
        SplitTowers y = fourBranches();
        y.setPrime(3);
        CHECK.due("count(2) over another prime", y.count(2), 1);
        CHECK.branch(y, 0, 0, 1);
    }

    private static void rests() {
        CHECK.sentence("A number in a branch is its rest by the branch.");
        SplitTowers x = fourBranches();
        Check.assign(x, "a=x^5+2*x+1");
        // x is 0 in the first one and -1 in the second one; x^5 is 4x in the others, where x^2 is 3 and 2.
        int[][] seen = {{1}, {3}, {1, 1}, {1, 1}};
        for (int k = 0; k < 4; k++) {
            int branch = k;
            CHECK.row("seen(0, " + k + ", ..)", place -> x.seen(0, branch, place), seen[k]);
            CHECK.due("seen at the degree", x.seen(0, k, seen[k].length), SplitTowers.BAD_VALUE);
        }
        Check.assign(x, "a=x^3");
        CHECK.row("seen(0, 2, ..)", place -> x.seen(0, 2, place), 0, 3);
        CHECK.row("seen(0, 3, ..)", place -> x.seen(0, 3, place), 0, 2);
    }

    private static void nothingAndInverted() {
        CHECK.sentence("It is nothing in a branch if this rest is 0; "
            + "it can be inverted there if it has no common factor of degree 1 or more with the branch.");
        SplitTowers x = fourBranches();
        x.join(0, 2);
        x.join(0, 1);
        // The branches are x(x^2+2) and (x+1)(x^2+3).
        String[] numbers = {"x^3+2*x", "x", "x*(x+1)", "(x+1)*(x^2+3)", "3", "0", "x^2+3", "x+2", "x^2+2*x"};
        int[][] kinds = {{0, 1}, {2, 1}, {2, 2}, {1, 0}, {1, 1}, {0, 0}, {1, 2}, {1, 1}, {2, 1}};
        for (int k = 0; k < numbers.length; k++) {
            Check.assign(x, "a=" + numbers[k]);
            CHECK.row("kind of " + numbers[k], branch -> x.kind(0, branch), kinds[k]);
        }
    }

    private static void partedByANumber() {
        CHECK.sentence("To part the branches by a number is this: each branch g for which the greatest common factor "
            + "(monic) h of g and the number is neither 1 nor g is replaced by the two branches h and g / h.");
        SplitTowers x = Check.withModulus(7, "6,0,0,0,0,0,1");
        Check.assign(x, "a=3*(x-1)*(x-2)");
        CHECK.due("part(0)", x.part(0), 1);
        CHECK.branch(x, 0, 2, 4, 1);
        CHECK.branch(x, 1, 3, 1, 0, 3, 1);
        CHECK.due("part(0) again", x.part(0), SplitTowers.NONE);
        Check.assign(x, "a=2*(x-2)*(x-3)*(x-4)");
        CHECK.due("part by what is in both", x.part(0), 2);
        CHECK.branch(x, 0, 5, 1);
        CHECK.branch(x, 1, 6, 1);
        CHECK.branch(x, 2, 5, 0, 1);
        CHECK.branch(x, 3, 2, 3, 1);
    }

    private static void nothingOrInvertedThen() {
        CHECK.sentence("(Then the number is nothing, or can be inverted, in each branch.)");
        for (int k = 0; k < SOME_PRIMES.length; k++) {
            for (String number : SOME_NUMBERS) {
                SplitTowers x = Check.withModulus(SOME_PRIMES[k], SOME_MODULI[k]);
                Check.assign(x, "b=" + number);
                int answer = x.part(1);
                int nothings = 0;
                for (int branch = 0; branch < x.count(2); branch++) {
                    CHECK.that(number + " is nothing or inverted", x.kind(1, branch) == 0 || x.kind(1, branch) == 1);
                    nothings += x.kind(1, branch) == 0 ? 1 : 0;
                }
                CHECK.due("part by " + number, answer, x.count(2) == 1 ? SplitTowers.NONE : nothings);
            }
        }
    }

    private static void partedByDegrees() {
        CHECK.sentence("To part the branches by degrees is this: each branch g is replaced by the products of its "
            + "irreducible factors of each degree (those that are not 1).");
        SplitTowers x = Check.withModulus(5, "0,1,1,0,0,1,1");
        CHECK.due("of one branch", x.partByDegrees(), 2);
        CHECK.branch(x, 0, 0, 1, 1);
        CHECK.branch(x, 1, 1, 0, 0, 0, 1);
        SplitTowers y = Check.withModulus(5, "0,1,1,0,0,1,1");
        Check.assign(y, "a=x*(x^2+2)");
        y.part(0);
        CHECK.due("of two branches", y.partByDegrees(), 4);
        CHECK.branch(y, 0, 0, 1);
        CHECK.branch(y, 1, 1, 1);
        CHECK.branch(y, 2, 2, 0, 1);
        CHECK.branch(y, 3, 3, 0, 1);
    }

    // ---- quotients

    private static void partedByTheDivisor() {
        CHECK.sentence("When a number is divided by another one, the branches are parted by the divisor.");
        SplitTowers x = Check.withModulus(5, "0,1,1,0,0,1,1");
        CHECK.due("a=(x^2+2)/3", Check.assign(x, "a=(x^2+2)/3"), 1);
        CHECK.due("a=3/(x^2+x)", Check.assign(x, "a=3/(x^2+x)"), 2);
        CHECK.branch(x, 0, 0, 1, 1);
        CHECK.branch(x, 1, 1, 0, 0, 0, 1);
        CHECK.due("b=0/(x*(x^2+2))", Check.assign(x, "b=0/(x*(x^2+2))"), 4);
        CHECK.due("b=1/(x+2)", Check.assign(x, "b=1/(x+2)"), 4);
        CHECK.due("b=1/0", Check.assign(x, "b=1/0"), 4);
    }

    private static void quotients() {
        CHECK.sentence("The quotient is the number that is, in each branch in which the divisor can be inverted, "
            + "the dividend times the inverse of the divisor, and nothing in all other branches.");
        for (int k = 0; k < SOME_PRIMES.length; k++) {
            for (String divisor : SOME_NUMBERS) {
                SplitTowers x = Check.withModulus(SOME_PRIMES[k], SOME_MODULI[k]);
                Check.assign(x, "a=x^5+x^2+x+1");
                Check.assign(x, "b=" + divisor);
                Check.assign(x, "c=a/b");
                Check.assign(x, "d=c*b");
                for (int branch = 0; branch < x.count(2); branch++) {
                    quotientHolds(x, branch, divisor);
                }
            }
        }
    }

    private static void quotientHolds(SplitTowers x, int branch, String divisor) {
        int kind = x.kind(1, branch);
        CHECK.that("by " + divisor + " they are parted", kind == 0 || kind == 1);
        for (int place = 0; x.seen(0, branch, place) >= 0; place++) {
            if (kind == 1) {
                CHECK.due("times " + divisor, x.seen(3, branch, place), x.seen(0, branch, place));
            } else {
                CHECK.due("by nothing", x.seen(2, branch, place), 0);
            }
        }
    }
}
