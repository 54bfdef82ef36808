/** The edges of the part "Branches" of the terms, and of promises 7 to 10: a sentence of the document each. */
public final class BranchEdgesTest {
    private static final Check CHECK = new Check("BranchEdgesTest");
    private static final int[] NO_REGISTERS = {-1, 6, Integer.MAX_VALUE, Integer.MIN_VALUE};

    public static void main(String[] args) {
        leastDegreesFirst();
        coefficientsThatDiffer();
        numberedFromZero();
        oneBranchAtFirst();
        oneBranchWheneverTheModulusBecomesAnotherOne();
        nothing();
        inverted();
        partsNeitherOneNorTheWhole();
        partIsAnAct();
        partTellsTheNothings();
        partByDegrees();
        partByDegreesPartsNothing();
        joinTellsTheNewNumber();
        joinOfUnknownOrSame();
        joinAlikeToOneAndAnother();
        joinAlikeNotPossible();
        joinAlikeNone();
        CHECK.done();
    }

    /** x^3 - x over 5, with the branches x, x + 1 and x - 1; a is x, b is x^2 - 1, c is 1, and another state is kept. */
    private static void parted(SplitTowers x) {
        Check.readModulus(x, "0,4,0,1");
        x.keep();
        Check.assign(x, "a=x+0/x+0/(x-1)");
        Check.assign(x, "b=x^2-1");
        Check.assign(x, "c=1");
    }

    /** The same, with a history that has room for one more. */
    private static void partedWithRoom(SplitTowers x) {
        parted(x);
        x.undo();
    }

    private static void leastDegreesFirst() {
        CHECK.sentence("by their degrees, the least first");
        SplitTowers x = Check.withModulus(5, "2,3,4,1");
        Check.assign(x, "a=x+4");
        CHECK.due("part(0)", x.part(0), 1);
        CHECK.branch(x, 0, 4, 1);
        CHECK.branch(x, 1, 3, 0, 1);
        SplitTowers y = Check.withModulus(5, "2,3,4,1");
        Check.assign(y, "a=x^2+3");
        CHECK.due("part(0)", y.part(0), 1);
        CHECK.branch(y, 0, 4, 1);
        CHECK.branch(y, 1, 3, 0, 1);
        // x(x^2+x+1)(x^3+x+1) over 2.
        SplitTowers z = Check.withModulus(2, "0,1,0,0,0,1,1");
        Check.assign(z, "a=x^3+x+1");
        z.part(0);
        Check.assign(z, "a=x");
        z.part(0);
        CHECK.branch(z, 0, 0, 1);
        CHECK.branch(z, 1, 1, 1, 1);
        CHECK.branch(z, 2, 1, 1, 0, 1);
    }

    private static void coefficientsThatDiffer() {
        CHECK.sentence("that with the greatest number at which they differ being compared, the lesser one first");
        // x^2+3 and x^2+x over 5: the number 1 is compared, not the number 0.
        firstPart(5, "0,3,3,1,1", "x^2+x", new int[] {3, 0, 1}, new int[] {0, 1, 1});
        // x^3+x^2+5x+5 and x^3+6x^2+3x+4 over 7: the number 2 is compared.
        firstPart(7, "6,0,0,0,0,0,1", "(x-1)*(x-2)*(x-5)", new int[] {5, 5, 1, 1}, new int[] {4, 3, 6, 1});
        // x^3+1 and x^3-1 over 7: the number 0 is compared, all others are the same.
        firstPart(7, "6,0,0,0,0,0,1", "x^3-1", new int[] {1, 0, 0, 1}, new int[] {6, 0, 0, 1});
        // 9 is lesser than 10, though not by its first digit.
        firstPart(13, "12,6,1", "x+9", new int[] {9, 1}, new int[] {10, 1});
        firstPart(13, "12,6,1", "x+5+5", new int[] {9, 1}, new int[] {10, 1});
        firstPart(13, "0,12,1", "x", new int[] {0, 1}, new int[] {12, 1});
    }

    private static void firstPart(int prime, String modulus, String by, int[] lower, int[] upper) {
        SplitTowers x = Check.withModulus(prime, modulus);
        Check.assign(x, "a=" + by);
        int branches = x.count(2);
        CHECK.due("part by " + by, x.part(0), 1);
        CHECK.due("count(2)", x.count(2), branches + 1);
        CHECK.branch(x, 0, lower);
        CHECK.branch(x, 1, upper);
    }

    private static void numberedFromZero() {
        CHECK.sentence("numbered from 0 in their order");
        SplitTowers x = Check.withModulus(11, "0,10,10,5,8,4,1");
        for (int root = 0; root <= 4; root++) {
            CHECK.due("a branch behind the last one", x.branch(root + 1, 0), SplitTowers.UNKNOWN);
            Check.assign(x, "a=x+" + root);
            CHECK.due("part(0)", x.part(0), 1);
        }
        for (int k = 0; k < 6; k++) {
            CHECK.branch(x, k, k, 1);
        }
        CHECK.due("branch(6, 0)", x.branch(6, 0), SplitTowers.UNKNOWN);
        CHECK.due("branch(-1, 0)", x.branch(-1, 0), SplitTowers.UNKNOWN);
    }

    private static void oneBranchAtFirst() {
        CHECK.sentence("At first, and whenever f becomes another one, there is one branch, f itself");
        SplitTowers x = new SplitTowers();
        CHECK.due("count(2)", x.count(2), 1);
        CHECK.branch(x, 0, 0, 1);
        CHECK.due("branch(1, 0)", x.branch(1, 0), SplitTowers.UNKNOWN);
    }

    private static void oneBranchWheneverTheModulusBecomesAnotherOne() {
        CHECK.sentence("At first, and whenever f becomes another one, there is one branch, f itself");
        SplitTowers x = new SplitTowers();
        parted(x);
        CHECK.due("another modulus", Check.readModulus(x, "0,1,1"), 2);
        CHECK.due("count(2)", x.count(2), 1);
        CHECK.branch(x, 0, 0, 1, 1);
        CHECK.due("one of the degree of before", Check.readModulus(x, "1,4,0,1"), 3);
        CHECK.branch(x, 0, 1, 4, 0, 1);
        x.undo();
        x.undo();
        CHECK.due("count(2) when it is undone", x.count(2), 3);
        CHECK.due("the modulus that is there", Check.readModulus(x, "0,4,0,1"), SplitTowers.NONE);
        CHECK.due("count(2)", x.count(2), 3);
        CHECK.due("setPrime(7)", x.setPrime(7), 5);
        CHECK.due("count(2)", x.count(2), 1);
        CHECK.branch(x, 0, 0, 1);
    }

    private static void nothing() {
        CHECK.sentence("It is nothing in a branch if this rest is 0");
        SplitTowers x = new SplitTowers();
        parted(x);
        x.join(1, 2);
        // The branches are x and x^2 - 1.
        Check.assign(x, "a=x^2-1");
        CHECK.row("kind(0, ..)", k -> x.kind(0, k), 1, 0, SplitTowers.UNKNOWN);
        Check.assign(x, "a=x^2");
        CHECK.row("kind(0, ..)", k -> x.kind(0, k), 0, 1, SplitTowers.UNKNOWN);
        Check.assign(x, "a=x-1");
        CHECK.row("kind(0, ..)", k -> x.kind(0, k), 1, 2, SplitTowers.UNKNOWN);
        Check.assign(x, "a=0");
        CHECK.row("kind(0, ..)", k -> x.kind(0, k), 0, 0, SplitTowers.UNKNOWN);
    }

    private static void inverted() {
        CHECK.sentence("it can be inverted there if it has no common factor of degree 1 or more with the branch");
        SplitTowers x = Check.withModulus(5, "0,4,0,1");
        String[] numbers = {"0", "1", "4", "x", "x+1", "x-1", "x+2", "x+3", "x^2", "x^2-1", "x^2+1", "x^2+x", "x^2+2"};
        int[] kinds = {0, 1, 1, 2, 2, 2, 1, 1, 2, 2, 1, 2, 1};
        for (int k = 0; k < numbers.length; k++) {
            Check.assign(x, "a=" + numbers[k]);
            CHECK.due("kind of " + numbers[k], x.kind(0, 0), kinds[k]);
        }
        SplitTowers y = Check.withModulus(2, "1,1,0,1");
        Check.assign(y, "a=x^2+x+1");
        CHECK.due("kind by an irreducible branch", y.kind(0, 0), 1);
    }

    private static void partsNeitherOneNorTheWhole() {
        CHECK.sentence("for which the greatest common factor (monic) h of g and the number is neither 1 nor g");
        Twins twins = new Twins(CHECK, x -> {
            Check.readModulus(x, "0,4,0,1");
            x.keep();
            Check.assign(x, "a=2");
            Check.assign(x, "b=x^2+1");
        });
        twins.changesNothing("part by a constant", SplitTowers.NONE, x -> x.part(0));
        twins.changesNothing("part by one without a common factor", SplitTowers.NONE, x -> x.part(1));
        twins.changesNothing("part by 0", SplitTowers.NONE, x -> x.part(2));
        Twins parts = new Twins(CHECK, BranchEdgesTest::parted);
        parts.changesNothing("part by one that is nothing or inverted", SplitTowers.NONE, x -> x.part(0));
        parts.changesNothing("part by one that is nothing in two", SplitTowers.NONE, x -> x.part(1));
        SplitTowers x = Check.withModulus(5, "0,4,0,1");
        Check.assign(x, "a=3*x^2-3");
        CHECK.due("part by a factor of degree 2 that is not monic", x.part(0), 1);
        CHECK.branch(x, 0, 0, 1);
        CHECK.branch(x, 1, 4, 0, 1);
        Check.assign(x, "a=x^2+x");
        CHECK.due("nothing in one branch, and mixed in another one", x.part(0), 2);
        CHECK.branch(x, 0, 0, 1);
        CHECK.branch(x, 1, 1, 1);
        CHECK.branch(x, 2, 4, 1);
    }

    private static void partIsAnAct() {
        CHECK.sentence("Parts the branches by a number. This is an act");
        Twins twins = new Twins(CHECK, x -> {
            Check.readModulus(x, "0,4,0,1");
            x.keep();
            x.setNumber(5, 1, 2);
        });
        twins.isAnAct("part(5)", 1, x -> x.part(5));
        SplitTowers x = new SplitTowers();
        CHECK.due("part of a branch of degree 1", x.part(0), SplitTowers.NONE);
        x.setNumber(0, 0, 1);
        CHECK.due("part of a branch of degree 1", x.part(0), SplitTowers.NONE);
        Twins parts = new Twins(CHECK, BranchEdgesTest::parted);
        for (int no : NO_REGISTERS) {
            parts.changesNothing("part(" + no + ")", SplitTowers.UNKNOWN, y -> y.part(no));
        }
    }

    private static void partTellsTheNothings() {
        CHECK.sentence("Returns in how many branches the number is nothing then");
        SplitTowers x = Check.withModulus(7, "6,0,0,0,0,0,1");
        Check.assign(x, "a=x^3-1");
        CHECK.due("x^3-1", x.part(0), 1);
        Check.assign(x, "a=(x-1)*(x-3)");
        CHECK.due("one root in each of two branches", x.part(0), 2);
        Check.assign(x, "a=(x-1)*(x-3)*(x-2)*(x-5)");
        CHECK.due("two whole branches, and one root in each of two others", x.part(0), 4);
        CHECK.due("count(2)", x.count(2), 6);
        CHECK.due("again", x.part(0), SplitTowers.NONE);
    }

    private static void partByDegrees() {
        CHECK.sentence("replaced by the products of its irreducible factors of each degree (those that are not 1)");
        // x(x^2+x+1)(x^3+x+1); (x^2+x+1)(x^4+x+1); (x+1)(x^5+x^2+1); x(x+1)(x^4+x+1) over 2
        byDegrees(2, "0,1,0,0,0,1,1", new int[][] {{0, 1}, {1, 1, 1}, {1, 1, 0, 1}});
        byDegrees(2, "1,0,0,1,1,1,1", new int[][] {{1, 1, 1}, {1, 1, 0, 0, 1}});
        byDegrees(2, "1,1,1,1,0,1,1", new int[][] {{1, 1}, {1, 0, 1, 0, 0, 1}});
        byDegrees(2, "0,1,0,1,0,1,1", new int[][] {{0, 1, 1}, {1, 1, 0, 0, 1}});
        // x(x^2+1)(x^3+2x+1) over 3, and (x^2-1)(x^4+x^2+1) over 5
        byDegrees(3, "0,1,2,1,0,0,1", new int[][] {{0, 1}, {1, 0, 1}, {1, 2, 0, 1}});
        byDegrees(5, "4,0,0,0,0,0,1", new int[][] {{4, 0, 1}, {1, 0, 1, 0, 1}});
        SplitTowers x = Check.withModulus(5, "4,0,0,0,0,0,1");
        Check.assign(x, "a=0/(x-1)");
        CHECK.due("one branch is irreducible, one is not", x.partByDegrees(), 3);
        CHECK.branch(x, 0, 1, 1);
        CHECK.branch(x, 1, 4, 1);
        CHECK.branch(x, 2, 1, 0, 1, 0, 1);
    }

    private static void byDegrees(int prime, String modulus, int[][] want) {
        SplitTowers x = Check.withModulus(prime, modulus);
        CHECK.due("partByDegrees() of " + modulus, x.partByDegrees(), want.length);
        for (int k = 0; k < want.length; k++) {
            CHECK.branch(x, k, want[k]);
        }
        CHECK.due("partByDegrees() again", x.partByDegrees(), SplitTowers.NONE);
        CHECK.due("undo()", x.undo(), prime == 5 ? 1 : 2);
        CHECK.due("count(2)", x.count(2), 1);
    }

    private static void partByDegreesPartsNothing() {
        CHECK.sentence("Returns how many branches there are then; NONE if no branch is parted");
        Twins twins = new Twins(CHECK, BranchEdgesTest::parted);
        twins.changesNothing("partByDegrees() of branches of degree 1", SplitTowers.NONE, SplitTowers::partByDegrees);
        Twins alike = new Twins(CHECK, x -> Check.readModulus(x, "0,4,0,1"));
        alike.changesNothing("partByDegrees() of factors of degree 1", SplitTowers.NONE, SplitTowers::partByDegrees);
        // (x^3+x+1)(x^3+x^2+1) over 2
        CHECK.due("of two factors of degree 3", Check.withModulus(2, "1,1,1,1,1,1,1").partByDegrees(), SplitTowers.NONE);
        CHECK.due("of one of degree 6", Check.withModulus(2, "1,1,0,0,0,0,1").partByDegrees(), SplitTowers.NONE);
        CHECK.due("of x", new SplitTowers().partByDegrees(), SplitTowers.NONE);
        Twins parts = new Twins(CHECK, x -> {
            Check.readModulus(x, "2,3,4,1");
            x.keep();
            Check.assign(x, "a=x");
        });
        parts.isAnAct("partByDegrees()", 2, SplitTowers::partByDegrees);
    }

    private static void joinTellsTheNewNumber() {
        CHECK.sentence("Returns the number of the new branch");
        int[][] pairs = {{0, 1}, {0, 2}, {1, 2}};
        int[][] products = {{0, 1, 1}, {0, 4, 1}, {4, 0, 1}};
        int[][] others = {{4, 1}, {1, 1}, {0, 1}};
        for (int k = 0; k < 3; k++) {
            for (int turned = 0; turned < 2; turned++) {
                int one = pairs[k][turned];
                int other = pairs[k][1 - turned];
                SplitTowers x = new SplitTowers();
                parted(x);
                CHECK.due("join(" + one + ", " + other + ")", x.join(one, other), 1);
                CHECK.due("count(2)", x.count(2), 2);
                CHECK.branch(x, 0, others[k]);
                CHECK.branch(x, 1, products[k]);
                CHECK.due("join(0, 1)", x.join(turned, 1 - turned), 0);
                CHECK.branch(x, 0, 0, 4, 0, 1);
                new Twins(CHECK, BranchEdgesTest::partedWithRoom).isAnAct("join", 1, y -> y.join(one, other));
            }
        }
        SplitTowers x = Check.withModulus(2, "0,1,0,1,0,1,1");
        Check.assign(x, "a=0/x+0/(x+1)");
        CHECK.due("join(0, 1) before x^4+x+1", x.join(0, 1), 0);
        CHECK.branch(x, 0, 0, 1, 1);
        CHECK.branch(x, 1, 1, 1, 0, 0, 1);
    }

    private static void joinOfUnknownOrSame() {
        CHECK.sentence("UNKNOWN (one or other); BAD_VALUE if both are the same");
        Twins twins = new Twins(CHECK, BranchEdgesTest::parted);
        for (int no : new int[] {-1, 3, 6, Integer.MAX_VALUE, Integer.MIN_VALUE}) {
            twins.changesNothing("join(" + no + ", 0)", SplitTowers.UNKNOWN, x -> x.join(no, 0));
            twins.changesNothing("join(2, " + no + ")", SplitTowers.UNKNOWN, x -> x.join(2, no));
            twins.changesNothing("join(" + no + ", " + no + ")", SplitTowers.UNKNOWN, x -> x.join(no, no));
        }
        for (int k = 0; k < 3; k++) {
            int same = k;
            twins.changesNothing("join of the same", SplitTowers.BAD_VALUE, x -> x.join(same, same));
        }
        CHECK.due("join(0, 1) with one branch", new SplitTowers().join(0, 1), SplitTowers.UNKNOWN);
        CHECK.due("join(0, 0) with one branch", new SplitTowers().join(0, 0), SplitTowers.BAD_VALUE);
    }

    private static void joinAlikeToOneAndAnother() {
        CHECK.sentence("Joins all branches in which a number is nothing to one, and all others to another one");
        Twins twins = new Twins(CHECK, BranchEdgesTest::partedWithRoom);
        twins.isAnAct("one nothing and two others", 2, x -> x.joinAlike(0));
        twins.isAnAct("two nothing and one other", 2, x -> x.joinAlike(1));
        twins.isAnAct("three nothing", 1, x -> x.joinAlike(5));
        SplitTowers x = new SplitTowers();
        parted(x);
        CHECK.due("three others", x.joinAlike(2), 1);
        CHECK.branch(x, 0, 0, 4, 0, 1);
        x.undo();
        CHECK.due("two nothing and one other", x.joinAlike(1), 2);
        CHECK.branch(x, 0, 0, 1);
        CHECK.branch(x, 1, 4, 0, 1);
        SplitTowers y = Check.withModulus(7, "6,0,0,0,0,0,1");
        for (int root = 1; root <= 5; root++) {
            Check.assign(y, "a=0/(x-" + root + ")");
        }
        Check.assign(y, "a=x^3-1");
        CHECK.due("three nothing and three others", y.joinAlike(0), 2);
        CHECK.branch(y, 0, 1, 0, 0, 1);
        CHECK.branch(y, 1, 6, 0, 0, 1);
    }

    private static void joinAlikeNotPossible() {
        CHECK.sentence("NOT_POSSIBLE if there is a branch in which the number neither is nothing nor can be inverted");
        Twins mixed = new Twins(CHECK, x -> {
            Check.readModulus(x, "0,4,0,1");
            x.keep();
            Check.assign(x, "a=x+0/(x+1)");
        });
        // There are no two to be joined, but this is looked at afterwards.
        mixed.changesNothing("joinAlike(0)", SplitTowers.NOT_POSSIBLE, x -> x.joinAlike(0));
        Twins one = new Twins(CHECK, x -> {
            Check.readModulus(x, "0,4,0,1");
            Check.assign(x, "a=x");
        });
        one.changesNothing("joinAlike(0) of one branch", SplitTowers.NOT_POSSIBLE, x -> x.joinAlike(0));
        SplitTowers y = Check.withModulus(7, "6,0,0,0,0,0,1");
        for (int root = 1; root <= 4; root++) {
            Check.assign(y, "a=0/(x-" + root + ")");
        }
        Check.assign(y, "a=x-5");
        CHECK.due("four others and one that is mixed", y.joinAlike(0), SplitTowers.NOT_POSSIBLE);
        CHECK.due("count(2)", y.count(2), 5);
        Check.assign(y, "a=(x-5)*(x-6)");
        CHECK.due("four others and one that is nothing", y.joinAlike(0), 2);
    }

    private static void joinAlikeNone() {
        CHECK.sentence("NONE if there are no two to be joined");
        Twins twins = new Twins(CHECK, x -> {
            parted(x);
            x.join(1, 2);
        });
        twins.changesNothing("one nothing and one other", SplitTowers.NONE, x -> x.joinAlike(0));
        twins.changesNothing("one other and one nothing", SplitTowers.NONE, x -> x.joinAlike(1));
        Twins one = new Twins(CHECK, x -> Check.assign(x, "a=1"));
        one.changesNothing("one that is nothing", SplitTowers.NONE, x -> x.joinAlike(1));
        one.changesNothing("one that can be inverted", SplitTowers.NONE, x -> x.joinAlike(0));
        Twins parts = new Twins(CHECK, BranchEdgesTest::parted);
        for (int no : NO_REGISTERS) {
            parts.changesNothing("joinAlike(" + no + ")", SplitTowers.UNKNOWN, y -> y.joinAlike(no));
        }
    }
}
