/** Promises 7 to 10: part, partByDegrees, join, joinAlike. */
public final class BranchesTest {
    private static final Check CHECK = new Check("BranchesTest");

    public static void main(String[] args) {
        part();
        branchesAreMonic();
        branchesInTheirOrder();
        partByDegrees();
        join();
        joinAlike();
        wrongArguments();
        CHECK.done();
    }

    private static void part() {
        SplitTowers x = Check.withModulus(5, "0,4,0,1");
        CHECK.due("part by 0", x.part(5), SplitTowers.NONE);
        Check.assign(x, "a=x");
        Check.assign(x, "b=x^2-x");
        CHECK.due("part(0)", x.part(0), 1);
        CHECK.branch(x, 0, 0, 1);
        CHECK.branch(x, 1, 4, 0, 1);
        CHECK.due("part(0)", x.part(0), SplitTowers.NONE);
        CHECK.due("part(1)", x.part(1), 2);
        CHECK.due("count(2)", x.count(2), 3);
        CHECK.branch(x, 0, 0, 1);
        CHECK.branch(x, 1, 1, 1);
        CHECK.branch(x, 2, 4, 1);
        CHECK.due("count(6)", x.count(6), 4);
        x.undo();
        CHECK.due("undone", x.count(2), 2);
        CHECK.due("the number stays", x.number(1, 2), 1);
    }

    private static void branchesAreMonic() {
        SplitTowers x = Check.withModulus(7, "0,6,0,1");
        Check.assign(x, "a=3*x");
        CHECK.due("part(0)", x.part(0), 1);
        CHECK.branch(x, 0, 0, 1);
        CHECK.branch(x, 1, 6, 0, 1);
        Check.assign(x, "a=1/(4*x^2+3*x)");
        CHECK.branch(x, 1, 1, 1);
        CHECK.branch(x, 2, 6, 1);
    }

    private static void branchesInTheirOrder() {
        SplitTowers x = Check.withModulus(5, "0,3,4,2,1");
        Check.assign(x, "a=x^2-1");
        CHECK.due("part(0)", x.part(0), 1);
        CHECK.branch(x, 0, 4, 0, 1);
        CHECK.branch(x, 1, 0, 2, 1);
        SplitTowers z = Check.withModulus(7, "6,0,0,0,0,0,1");
        for (int k = 1; k < 6; k++) {
            Check.assign(z, "a=0/(x-" + k + ")");
        }
        CHECK.due("six branches", z.count(2), 6);
        for (int k = 0; k < 6; k++) {
            CHECK.branch(z, k, k + 1, 1);
        }
        CHECK.branch(z, 0, 1, 1);
        CHECK.due("beyond them", z.branch(6, 0), SplitTowers.UNKNOWN);
    }

    private static void partByDegrees() {
        SplitTowers x = Check.withModulus(2, "0,1,0,0,0,1,1");
        CHECK.due("partByDegrees()", x.partByDegrees(), 3);
        CHECK.branch(x, 0, 0, 1);
        CHECK.branch(x, 1, 1, 1, 1);
        CHECK.branch(x, 2, 1, 1, 0, 1);
        CHECK.due("partByDegrees()", x.partByDegrees(), SplitTowers.NONE);
        CHECK.due("undo()", x.undo(), 2);
        CHECK.due("count(2)", x.count(2), 1);
        SplitTowers y = Check.withModulus(2, "0,1,0,0,1");
        CHECK.due("partByDegrees()", y.partByDegrees(), 2);
        CHECK.branch(y, 0, 0, 1, 1);
        CHECK.branch(y, 1, 1, 1, 1);
        SplitTowers z = Check.withModulus(2, "0,1,0,0,1");
        Check.assign(z, "a=0/x");
        CHECK.due("each branch by itself", z.partByDegrees(), 3);
        CHECK.branch(z, 1, 1, 1);
        SplitTowers w = Check.withModulus(5, "0,4,0,1");
        CHECK.due("all of one degree", w.partByDegrees(), SplitTowers.NONE);
        CHECK.due("of degree 6", Check.withModulus(2, "1,1,0,0,0,0,1").partByDegrees(), SplitTowers.NONE);
        CHECK.due("no state", w.count(6), 1);
    }

    private static SplitTowers allParted() {
        SplitTowers x = Check.withModulus(5, "0,4,0,1");
        Check.assign(x, "a=x+0/x+0/(x-1)");
        return x;
    }

    private static void join() {
        SplitTowers x = allParted();
        CHECK.due("join(2, 0)", x.join(2, 0), 1);
        CHECK.branch(x, 0, 1, 1);
        CHECK.branch(x, 1, 0, 4, 1);
        CHECK.due("join(0, 2)", x.join(0, 2), SplitTowers.UNKNOWN);
        CHECK.due("join(2, 2)", x.join(2, 2), SplitTowers.UNKNOWN);
        CHECK.due("join(-1, 0)", x.join(-1, 0), SplitTowers.UNKNOWN);
        CHECK.due("join(1, 1)", x.join(1, 1), SplitTowers.BAD_VALUE);
        CHECK.due("count(6)", x.count(6), 3);
        CHECK.due("join(0, 1)", x.join(0, 1), 0);
        CHECK.branch(x, 0, 0, 4, 0, 1);
        CHECK.due("count(2)", x.count(2), 1);
        CHECK.due("undo()", x.undo(), 3);
        CHECK.due("count(2)", x.count(2), 2);
        SplitTowers y = Check.withModulus(2, "0,1,0,1,1,1");
        Check.assign(y, "a=0/x+0/(x+1)");
        CHECK.due("count(2)", y.count(2), 3);
        CHECK.due("a product before another branch", y.join(1, 0), 0);
        CHECK.branch(y, 0, 0, 1, 1);
        CHECK.branch(y, 1, 1, 1, 0, 1);
        SplitTowers z = allParted();
        CHECK.due("join(1, 2)", z.join(1, 2), 1);
        CHECK.branch(z, 0, 0, 1);
        CHECK.branch(z, 1, 4, 0, 1);
    }

    private static void joinAlike() {
        SplitTowers x = allParted();
        CHECK.due("joinAlike(0)", x.joinAlike(0), 2);
        CHECK.branch(x, 0, 0, 1);
        CHECK.branch(x, 1, 4, 0, 1);
        CHECK.due("joinAlike(0)", x.joinAlike(0), SplitTowers.NONE);
        CHECK.due("count(6)", x.count(6), 3);
        CHECK.due("all nothing", x.joinAlike(5), 1);
        CHECK.due("all nothing", x.joinAlike(5), SplitTowers.NONE);
        CHECK.due("neither", x.joinAlike(0), SplitTowers.NOT_POSSIBLE);
        CHECK.due("undo()", x.undo(), 3);
        CHECK.due("count(2)", x.count(2), 2);
        Check.assign(x, "b=3");
        CHECK.due("all invertible", x.joinAlike(1), 1);
        SplitTowers y = allParted();
        Check.assign(y, "c=x^2-x");
        CHECK.due("two that are nothing", y.joinAlike(2), 2);
        CHECK.branch(y, 0, 1, 1);
        CHECK.branch(y, 1, 0, 4, 1);
        SplitTowers z = allParted();
        z.join(0, 1);
        CHECK.due("a mixed one and another one", z.joinAlike(0), SplitTowers.NOT_POSSIBLE);
    }

    private static void wrongArguments() {
        SplitTowers x = allParted();
        for (int no : new int[] {-1, 6, Integer.MAX_VALUE, Integer.MIN_VALUE}) {
            CHECK.due("part(" + no + ")", x.part(no), SplitTowers.UNKNOWN);
            CHECK.due("joinAlike(" + no + ")", x.joinAlike(no), SplitTowers.UNKNOWN);
            CHECK.due("join(0, " + no + ")", x.join(0, no), SplitTowers.UNKNOWN);
            CHECK.due("join(" + no + ", " + no + ")", x.join(no, no), SplitTowers.UNKNOWN);
        }
        CHECK.due("count(6)", x.count(6), 2);
    }
}
