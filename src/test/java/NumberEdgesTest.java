/** The edges of the parts "Numbers" and "Quotients" of the terms, and of promises 4 to 6: a sentence each. */
public final class NumberEdgesTest {
    private static final Check CHECK = new Check("NumberEdgesTest");
    private static final int[] PRIMES = {2, 3, 5, 7, 11, 13};
    private static final int[] NO_REGISTERS = {-1, 6, 7, -6, Integer.MAX_VALUE, Integer.MIN_VALUE};

    public static void main(String[] args) {
        lesserDegreeThanTheModulus();
        reckonedModuloTheModulus();
        sixRegisters();
        registersAtFirst();
        placesOfSetNumber();
        valuesOfSetNumber();
        setNumberThatIsSoAlready();
        assignIsAnAct();
        assignTellsTheBranches();
        assignWithAFault();
        divisorThatPartsNothing();
        divisorThatParts();
        divisorThatIsNothingInABranch();
        putInsideAndOutside();
        putCountsTheBranches();
        putOfUnknownOnes();
        putOfTheSame();
        putThatChangesNothing();
        CHECK.done();
    }

    /** x^3 - x over 5, with the branches x, x + 1 and x - 1; a is x, b is 2, and another state is kept. */
    private static void parted(SplitTowers x) {
        Check.readModulus(x, "0,4,0,1");
        x.keep();
        Check.assign(x, "a=x+0/x+0/(x-1)");
        Check.assign(x, "b=2");
    }

    private static void assigned(SplitTowers x, String text, int branches, int... want) {
        CHECK.due(text, Check.assign(x, text), branches);
        CHECK.number(x, text.charAt(0) - 'a', want);
    }

    private static void lesserDegreeThanTheModulus() {
        CHECK.sentence("A number is a polynomial of a lesser degree than f");
        String[] moduli = {"2,1", "2,0,1", "1,1,0,1", "2,0,0,0,1", "0,4,0,0,0,1", "2,0,0,0,0,0,1"};
        int[][] powers = {{3}, {3, 0}, {4, 4, 0}, {3, 0, 0, 0}, {0, 1, 0, 0, 0}, {3, 0, 0, 0, 0, 0}};
        for (int degree = 1; degree <= 6; degree++) {
            SplitTowers x = Check.withModulus(5, moduli[degree - 1]);
            assigned(x, "a=x^" + degree, 1, powers[degree - 1]);
            CHECK.due("number(0, degree)", x.number(0, degree), SplitTowers.BAD_VALUE);
            int[] greatest = new int[degree];
            greatest[degree - 1] = 1;
            assigned(x, "b=x^" + (degree - 1), 1, greatest);
        }
    }

    private static void reckonedModuloTheModulus() {
        CHECK.sentence("sums, differences and products are reckoned modulo f");
        SplitTowers x = Check.withModulus(13, "11,0,0,0,0,0,1");
        // x^6 is 2.
        assigned(x, "a=x^5*x^5", 1, 0, 0, 0, 0, 2, 0);
        assigned(x, "a=x^9*x^2", 1, 0, 0, 0, 0, 0, 2);
        assigned(x, "a=x^9*x^9", 1, 8, 0, 0, 0, 0, 0);
        assigned(x, "a=x^5+x^5-x^6", 1, 11, 0, 0, 0, 0, 2);
        assigned(x, "a=7*x^5+6*x^5", 1, 0, 0, 0, 0, 0, 0);
        assigned(x, "a=(x^5)^6", 1, 6, 0, 0, 0, 0, 0);
        SplitTowers y = Check.withModulus(2, "1,1,0,0,0,0,1");
        // x^6 is x + 1.
        assigned(y, "a=(x^5+x^4+x^3+x^2+x+1)*x", 1, 1, 0, 1, 1, 1, 1);
        SplitTowers z = Check.withModulus(5, "3,1");
        assigned(z, "a=x", 1, 2);
        assigned(z, "a=x*x*x+x-x", 1, 3);
    }

    private static void sixRegisters() {
        CHECK.sentence("There are 6 registers, a to f, numbered 0 to 5");
        SplitTowers x = Check.withModulus(13, "2,1");
        for (int k = 0; k < 6; k++) {
            CHECK.due("setNumber(" + k + ", 0, ..)", x.setNumber(k, 0, k + 7), 0);
        }
        for (int k = 0; k < 6; k++) {
            CHECK.due("number(" + k + ", 0)", x.number(k, 0), k + 7);
            CHECK.due("a register's letter", Check.assign(x, (char) ('a' + k) + "=" + (char) ('a' + k) + "-6"), 1);
            CHECK.due("number(" + k + ", 0)", x.number(k, 0), k + 1);
        }
        CHECK.row("number(.., 0)", k -> x.number(k, 0), 1, 2, 3, 4, 5, 6);
        Twins twins = new Twins(CHECK, NumberEdgesTest::parted);
        for (int no : NO_REGISTERS) {
            twins.changesNothing("setNumber(" + no + ", 0, 1)", SplitTowers.UNKNOWN, y -> y.setNumber(no, 0, 1));
            twins.changesNothing("put(" + no + ", 0, 0)", SplitTowers.UNKNOWN, y -> y.put(no, 0, 0));
            twins.changesNothing("put(0, 0, " + no + ")", SplitTowers.UNKNOWN, y -> y.put(0, 0, no));
            twins.changesNothing("number(" + no + ", 0)", SplitTowers.UNKNOWN, y -> y.number(no, 0));
        }
    }

    private static void registersAtFirst() {
        CHECK.sentence("each with a number (at first 0)");
        SplitTowers x = new SplitTowers();
        for (int k = 0; k < 6; k++) {
            CHECK.number(x, k, 0);
        }
        CHECK.due("count(5)", x.count(5), 6);
    }

    private static void placesOfSetNumber() {
        CHECK.sentence("number: 0 to the degree of f less 1");
        String[] moduli = {"2,1", "2,0,1", "1,1,0,1", "2,0,0,0,1", "0,4,0,0,0,1", "2,0,0,0,0,0,1"};
        for (int degree = 1; degree <= 6; degree++) {
            SplitTowers x = Check.withModulus(5, moduli[degree - 1]);
            for (int k = 0; k < degree; k++) {
                CHECK.due("setNumber(5, " + k + ", 3)", x.setNumber(5, k, 3), 0);
                CHECK.due("setNumber(5, " + k + ", 4)", x.setNumber(5, k, 4), 3);
                CHECK.due("number(5, " + k + ")", x.number(5, k), 4);
            }
            String before = Everything.state(x).toString();
            for (int no : new int[] {-1, degree, degree + 1, 12, 13, Integer.MAX_VALUE, Integer.MIN_VALUE}) {
                CHECK.due("setNumber(5, " + no + ", 1)", x.setNumber(5, no, 1), SplitTowers.BAD_VALUE);
                CHECK.due("setNumber(4, " + no + ", 0)", x.setNumber(4, no, 0), SplitTowers.BAD_VALUE);
            }
            CHECK.that("nothing is changed", Everything.state(x).toString().equals(before));
        }
        Twins twins = new Twins(CHECK, NumberEdgesTest::parted);
        twins.changesNothing("setNumber(0, -1, 1)", SplitTowers.BAD_VALUE, x -> x.setNumber(0, -1, 1));
        twins.changesNothing("setNumber(0, 3, 1)", SplitTowers.BAD_VALUE, x -> x.setNumber(0, 3, 1));
        twins.isAnAct("setNumber(0, 2, 1)", 0, x -> x.setNumber(0, 2, 1));
        twins.isAnAct("setNumber(0, 1, 4)", 1, x -> x.setNumber(0, 1, 4));
        twins.isAnAct("setNumber(1, 0, 0)", 2, x -> x.setNumber(1, 0, 0));
    }

    private static void valuesOfSetNumber() {
        CHECK.sentence("value: 0 to p - 1");
        for (int prime : PRIMES) {
            Twins twins = new Twins(CHECK, x -> {
                x.setPrime(prime);
                x.setNumber(2, 0, 1);
            });
            for (int value = 0; value < prime; value++) {
                int allowed = value;
                if (value > 0) {
                    twins.isAnAct("setNumber(0, 0, " + value + ")", 0, x -> x.setNumber(0, 0, allowed));
                }
            }
            twins.isAnAct("setNumber(2, 0, 0)", 1, x -> x.setNumber(2, 0, 0));
            for (int no : new int[] {-1, prime, prime + 1, 2 * prime, Integer.MAX_VALUE, Integer.MIN_VALUE}) {
                twins.changesNothing("setNumber(0, 0, " + no + ")", SplitTowers.BAD_VALUE, x -> x.setNumber(0, 0, no));
            }
        }
    }

    private static void setNumberThatIsSoAlready() {
        CHECK.sentence("Returns the previous coefficient; UNKNOWN; BAD_VALUE; NONE if it is so already");
        Twins twins = new Twins(CHECK, NumberEdgesTest::parted);
        twins.changesNothing("setNumber(0, 1, 1)", SplitTowers.NONE, x -> x.setNumber(0, 1, 1));
        twins.changesNothing("setNumber(0, 0, 0)", SplitTowers.NONE, x -> x.setNumber(0, 0, 0));
        twins.changesNothing("setNumber(5, 2, 0)", SplitTowers.NONE, x -> x.setNumber(5, 2, 0));
        twins.changesNothing("setNumber(6, 3, 5)", SplitTowers.UNKNOWN, x -> x.setNumber(6, 3, 5));
        twins.changesNothing("setNumber(-1, -1, 0)", SplitTowers.UNKNOWN, x -> x.setNumber(-1, -1, 0));
        twins.changesNothing("setNumber(0, 3, 0)", SplitTowers.BAD_VALUE, x -> x.setNumber(0, 3, 0));
        twins.changesNothing("setNumber(0, 0, 5)", SplitTowers.BAD_VALUE, x -> x.setNumber(0, 0, 5));
    }

    private static void assignIsAnAct() {
        CHECK.sentence("Does the assignment of the text, which stays");
        for (String text : new String[] {"a=b", "a=a", "c=1/(x+1)", "f=0", "f=0/0", "b=(a+b)/x^2"}) {
            Twins twins = new Twins(CHECK, x -> {
                Check.readModulus(x, "0,4,0,1");
                x.keep();
                Check.assign(x, "a=x+2+0/x");
                Check.text(x, text);
            });
            twins.isAnAct("assign() of " + text, text.equals("c=1/(x+1)") ? 3 : 2, SplitTowers::assign);
        }
        SplitTowers x = Check.withModulus(5, "3,1");
        CHECK.due("a=a+1", Check.assign(x, "a=a+1"), 1);
        CHECK.due("the length of the text", x.count(7), 5);
        CHECK.due("assign() again", x.assign(), 1);
        CHECK.due("assign() again", x.assign(), 1);
        CHECK.number(x, 0, 3);
    }

    private static void assignTellsTheBranches() {
        CHECK.sentence("Returns how many branches there are then");
        SplitTowers x = Check.withModulus(7, "6,0,0,0,0,0,1");
        CHECK.due("a=1/(x-1)", Check.assign(x, "a=1/(x-1)"), 2);
        CHECK.due("a=1/(x-1)/(x-2)", Check.assign(x, "a=1/(x-1)/(x-2)"), 3);
        CHECK.due("a=1/((x-1)*(x-3))", Check.assign(x, "a=1/((x-1)*(x-3))"), 4);
        CHECK.due("a=1/((x-4)/(x-5))^2", Check.assign(x, "a=1/((x-4)/(x-5))^2"), 6);
        CHECK.due("a=1/(x-6)", Check.assign(x, "a=1/(x-6)"), 6);
        CHECK.due("a=x", Check.assign(x, "a=x"), 6);
    }

    private static void assignWithAFault() {
        CHECK.sentence("-100 minus the fault of the text, read as an assignment, if it has one (which is an error)");
        String[] texts = {"c=1/(x+1)+", "c=1/(x+1)2", "g=1/(x+1)", "c1/(x+1)", "", "c=1/(x+1)^", "c=(1/(x+1)", "0,4,0,1"};
        int[] faults = {10, 9, 0, 1, 0, 10, 10, 0};
        for (int k = 0; k < texts.length; k++) {
            String text = texts[k];
            Twins twins = new Twins(CHECK, x -> {
                Check.readModulus(x, "0,4,0,1");
                x.keep();
                Check.assign(x, "a=x+2+0/x");
                Check.text(x, text);
            });
            twins.changesNothing("assign() of " + text, -100 - faults[k], SplitTowers::assign);
        }
    }

    private static void divisorThatPartsNothing() {
        CHECK.sentence("the branches are parted by the divisor");
        SplitTowers x = Check.withModulus(5, "0,4,0,1");
        assigned(x, "a=1/0", 1, 0, 0, 0);
        assigned(x, "a=0/0", 1, 0, 0, 0);
        assigned(x, "a=x/2", 1, 0, 3, 0);
        assigned(x, "a=1/(x+2)/(x+3)*(x^2+1)", 1, 1, 0, 0);
        assigned(x, "a=(x^2+1)/(x^2+1)", 1, 1, 0, 0);
        assigned(x, "a=1/(x^3-x)", 1, 0, 0, 0);
        assigned(x, "a=1/5", 1, 0, 0, 0);
        assigned(x, "a=x/(5*x)", 1, 0, 0, 0);
        assigned(x, "a=x/6", 1, 0, 1, 0);
        SplitTowers y = Check.withModulus(2, "0,1,1");
        for (int digit = 0; digit <= 9; digit++) {
            assigned(y, "a=x/" + digit, 1, 0, digit % 2);
        }
        SplitTowers z = Check.withModulus(7, "0,6,0,1");
        assigned(z, "a=x/7", 1, 0, 0, 0);
        assigned(z, "a=x/8", 1, 0, 1, 0);
    }

    private static void divisorThatParts() {
        CHECK.sentence("each branch in which the divisor can be inverted, the dividend times the inverse of the divisor");
        SplitTowers x = Check.withModulus(5, "0,4,0,1");
        assigned(x, "a=1/(x^2-x)", 2, 0, 1, 4);
        CHECK.branch(x, 0, 1, 1);
        CHECK.branch(x, 1, 0, 4, 1);
        SplitTowers y = Check.withModulus(5, "0,4,0,1");
        assigned(y, "a=x/x", 2, 0, 0, 1);
        CHECK.branch(y, 0, 0, 1);
        CHECK.branch(y, 1, 4, 0, 1);
        SplitTowers z = Check.withModulus(5, "0,4,0,1");
        assigned(z, "a=0/x", 2, 0, 0, 0);
        CHECK.branch(z, 0, 0, 1);
        SplitTowers w = Check.withModulus(5, "0,4,0,1");
        assigned(w, "a=(x+3)/x^9", 2, 0, 3, 1);
        assigned(w, "a=x^2/x*x", 2, 0, 0, 1);
    }

    private static void divisorThatIsNothingInABranch() {
        CHECK.sentence("and nothing in all other branches");
        SplitTowers x = Check.withModulus(7, "6,0,0,0,0,0,1");
        assigned(x, "a=1/((x-1)*(x-2)*(x-3)*(x-4)*(x-5))", 2, 6, 1, 6, 1, 6, 1);
        for (int root = 1; root <= 5; root++) {
            Check.assign(x, "b=x-" + root);
            x.part(1);
        }
        // The product is 120, that is 1, at the root 6, whose branch x + 1 is the first one.
        CHECK.row("seen(0, .., 0)", k -> x.seen(0, k, 0), 1, 0, 0, 0, 0, 0);
        SplitTowers y = new SplitTowers();
        assigned(y, "a=4/x", 1, 0);
        assigned(y, "a=4/(x+1)", 1, 4);
    }

    private static void putInsideAndOutside() {
        CHECK.sentence("it becomes the number that is in a branch what it is there, and in all others what another register has");
        for (int branch = 0; branch < 3; branch++) {
            SplitTowers x = new SplitTowers();
            parted(x);
            // a is 0, 4 and 1 in the branches x, x + 1 and x - 1, and b is 2.
            int[] seen = {2, 2, 2};
            seen[branch] = new int[] {0, 4, 1}[branch];
            CHECK.due("put(0, " + branch + ", 1)", x.put(0, branch, 1), 2);
            CHECK.row("seen(0, .., 0)", k -> x.seen(0, k, 0), seen);
            CHECK.row("seen(1, .., 0)", k -> x.seen(1, k, 0), 2, 2, 2);
        }
        Twins twins = new Twins(CHECK, x -> {
            Check.readModulus(x, "0,4,0,1");
            Check.assign(x, "a=x+2+0/x");
        });
        twins.isAnAct("put(0, 0, 5)", 1, x -> x.put(0, 0, 5));
        twins.isAnAct("put(0, 1, 5)", 1, x -> x.put(0, 1, 5));
    }

    private static void putCountsTheBranches() {
        CHECK.sentence("Returns in how many branches the number becomes another one");
        SplitTowers x = Check.withModulus(7, "6,0,0,0,0,0,1");
        for (int root = 1; root <= 5; root++) {
            Check.assign(x, "a=0/(x-" + root + ")");
        }
        Check.assign(x, "a=x");
        // The branches are those of the roots 6, 5, 4, 3, 2, 1, in which x is just this.
        CHECK.due("put(1, 0, 0)", x.put(1, 0, 0), 5);
        CHECK.row("seen(1, .., 0)", k -> x.seen(1, k, 0), 0, 5, 4, 3, 2, 1);
        CHECK.due("put(1, 0, 0)", x.put(1, 0, 0), SplitTowers.NONE);
        CHECK.due("put(1, 5, 0)", x.put(1, 5, 0), 1);
        CHECK.row("seen(1, .., 0)", k -> x.seen(1, k, 0), 6, 5, 4, 3, 2, 1);
        CHECK.due("put(1, 5, 0)", x.put(1, 5, 0), SplitTowers.NONE);
        Check.assign(x, "c=(x-6)*(x-5)");
        CHECK.due("put(2, 3, 5)", x.put(2, 3, 5), 3);
    }

    private static void putOfUnknownOnes() {
        CHECK.sentence("UNKNOWN (register, branch or other)");
        Twins twins = new Twins(CHECK, NumberEdgesTest::parted);
        for (int no : new int[] {-1, 3, 6, Integer.MAX_VALUE, Integer.MIN_VALUE}) {
            twins.changesNothing("put(0, " + no + ", 1)", SplitTowers.UNKNOWN, x -> x.put(0, no, 1));
        }
        CHECK.due("put(0, 1, 1) with one branch", new SplitTowers().put(0, 1, 1), SplitTowers.UNKNOWN);
        CHECK.due("put(0, 0, 1) with one branch", new SplitTowers().put(0, 0, 1), SplitTowers.NONE);
    }

    private static void putOfTheSame() {
        CHECK.sentence("BAD_VALUE if both registers are the same");
        Twins twins = new Twins(CHECK, NumberEdgesTest::parted);
        for (int register = 0; register < 6; register++) {
            int same = register;
            twins.changesNothing("put of the same", SplitTowers.BAD_VALUE, x -> x.put(same, 2, same));
            twins.changesNothing("put of the same in no branch", SplitTowers.UNKNOWN, x -> x.put(same, 3, same));
        }
        twins.changesNothing("put(6, 0, 6)", SplitTowers.UNKNOWN, x -> x.put(6, 0, 6));
    }

    private static void putThatChangesNothing() {
        CHECK.sentence("NONE if in none");
        Twins twins = new Twins(CHECK, x -> {
            Check.readModulus(x, "0,4,0,1");
            x.keep();
            // They are the same in the branch x^2 - 1, and others in the branch x.
            Check.assign(x, "a=x^2+0/x");
            Check.assign(x, "b=1");
        });
        twins.changesNothing("put(0, 0, 1)", SplitTowers.NONE, x -> x.put(0, 0, 1));
        twins.isAnAct("put(0, 1, 1)", 1, x -> x.put(0, 1, 1));
        twins.changesNothing("put(2, 0, 3)", SplitTowers.NONE, x -> x.put(2, 0, 3));
        SplitTowers x = Check.withModulus(5, "0,4,0,1");
        Check.assign(x, "a=x");
        CHECK.due("put into the one branch", x.put(0, 0, 1), SplitTowers.NONE);
        CHECK.number(x, 0, 0, 1, 0);
    }
}
