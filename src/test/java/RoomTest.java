import java.lang.management.ManagementFactory;

/** Calls make no objects, and none of them throws, whatever they are given, the 512th call and later ones too. */
public final class RoomTest {
    private static final Check CHECK = new Check("RoomTest");
    // What the machine itself may make while it runs the calls.
    private static final long ALLOWED = 100_000;
    private static final int[] ARGUMENTS = {Integer.MIN_VALUE, -101, -5, -1, 0, 1, 2, 3, 5, 6, 7, 11, 12, 13, 60, 1000000,
        1000001, Integer.MAX_VALUE};

    public static void main(String[] args) {
        com.sun.management.ThreadMXBean bean = (com.sun.management.ThreadMXBean) ManagementFactory.getThreadMXBean();
        SplitTowers x = Check.withModulus(13, "0,12,0,0,0,0,1");
        callAll(x);
        SplitTowers y = Check.withModulus(13, "0,12,0,0,0,0,1");
        long before = bean.getCurrentThreadAllocatedBytes();
        long calls = callAll(y);
        long made = bean.getCurrentThreadAllocatedBytes() - before;
        CHECK.that("bytes made by " + calls + " calls: " + made, made < ALLOWED);
        CHECK.done();
    }

    private static long callAll(SplitTowers x) {
        long calls = 0;
        for (int a : ARGUMENTS) {
            for (int b : ARGUMENTS) {
                calls += twoArguments(x, a, b);
                for (int c : ARGUMENTS) {
                    x.setNumber(a, b, c);
                    x.put(a, b, c);
                    x.seen(a, b, c);
                    x.power(a, b, c);
                    calls += 4;
                }
            }
        }
        return calls;
    }

    private static long twoArguments(SplitTowers x, int a, int b) {
        x.type((char) a);
        x.assign();
        x.readModulus();
        x.clearText();
        typeQuotient(x);
        x.assign();
        x.part(a);
        x.partByDegrees();
        x.join(a, b);
        x.keep();
        x.joinAlike(a);
        x.undo();
        x.number(a, b);
        x.branch(a, b);
        x.kind(a, b);
        x.unit(a, b);
        x.leastPolynomial(a, b);
        x.trace(a);
        x.order(a);
        x.modulus(a);
        x.factors(a);
        x.count(a);
        if (a == b) {
            x.setPrime(a);
            x.restore();
        }
        return 34;
    }

    private static void typeQuotient(SplitTowers x) {
        x.type('a');
        x.type('=');
        x.type('b');
        x.type('+');
        x.type('x');
        x.type('^');
        x.type('3');
        x.type('/');
        x.type('(');
        x.type('x');
        x.type('-');
        x.type('3');
        x.type(')');
    }
}
