import java.util.Random;

/** Long runs of calls, the same each time, on the program and on the model; every answer must be the same. */
public final class ModelTest {
    private static final int RUNS = 1500;
    private static final int CALLS = 512;
    private static final int[] PRIMES = {2, 3, 5, 7, 11, 13};
    private static final int[] STRANGE = {-1, -2, 6, 7, 8, 13, 14, 60, 100, Integer.MAX_VALUE, Integer.MIN_VALUE};

    private final Check check;
    private final Random random;
    private final int run;
    private final SplitTowers x = new SplitTowers();
    private final Model m = new Model();
    private int calls;

    private ModelTest(Check check, int run) {
        this.check = check;
        this.run = run;
        random = new Random(run);
    }

    public static void main(String[] args) {
        Check check = new Check("ModelTest");
        for (int run = 0; run < RUNS; run++) {
            new ModelTest(check, run).go();
        }
        check.done();
    }

    private void go() {
        if (random.nextInt(5) > 0) {
            int prime = PRIMES[random.nextInt(6)];
            same("setPrime(" + prime + ")", x.setPrime(prime), m.setPrime(prime));
        }
        if (random.nextInt(6) > 0) {
            text(productText());
            same("readModulus()", x.readModulus(), m.readModulus());
        }
        while (calls < CALLS) {
            if (random.nextInt(100) < 45) {
                change();
            } else {
                ask();
            }
        }
    }

    /** What calls behind the 512th one answer is free. */
    private void same(String call, int got, int want) {
        calls++;
        if (calls <= CALLS) {
            check.due("run " + run + ", call " + calls + ": " + call, got, want);
        }
    }

    private int pick(int bound) {
        if (random.nextInt(12) == 0) {
            return STRANGE[random.nextInt(STRANGE.length)];
        }
        return random.nextInt(Math.max(bound, 1));
    }

    private int register() {
        return pick(6);
    }

    private int branch() {
        return pick(m.count(2) + (random.nextInt(9) == 0 ? 1 : 0));
    }

    private int place() {
        return pick(m.count(1) + (random.nextInt(6) == 0 ? 2 : 0));
    }

    private void text(String text) {
        same("clearText()", x.clearText(), m.clearText());
        for (int k = 0; k < text.length(); k++) {
            char c = text.charAt(k);
            same("type(" + (int) c + ")", x.type(c), m.type(c));
        }
    }

    private void change() {
        int a = register();
        int b = branch();
        switch (random.nextInt(24)) {
            case 0:
                if (random.nextInt(20) == 0) {
                    int prime = random.nextInt(4) == 0 ? pick(15) : PRIMES[random.nextInt(6)];
                    same("setPrime(" + prime + ")", x.setPrime(prime), m.setPrime(prime));
                }
                break;
            case 1:
                if (random.nextInt(8) == 0) {
                    text(random.nextBoolean() ? productText() : spoilt(polynomialText()));
                    same("readModulus()", x.readModulus(), m.readModulus());
                }
                break;
            case 2: case 3: case 4: case 5: case 6: {
                int n = place();
                int v = pick(m.count(0) + random.nextInt(2));
                same("setNumber(" + a + ", " + n + ", " + v + ")", x.setNumber(a, n, v), m.setNumber(a, n, v));
                break;
            }
            case 7: case 8: case 9:
                text(random.nextInt(4) == 0 ? spoilt(assignment()) : assignment());
                same("assign()", x.assign(), m.assign());
                break;
            case 10: case 11: {
                int c = register();
                same("put(" + a + ", " + b + ", " + c + ")", x.put(a, b, c), m.put(a, b, c));
                break;
            }
            case 12: case 13:
                same("part(" + a + ")", x.part(a), m.part(a));
                break;
            case 14:
                same("partByDegrees()", x.partByDegrees(), m.partByDegrees());
                break;
            case 15: case 16: {
                int c = branch();
                same("join(" + b + ", " + c + ")", x.join(b, c), m.join(b, c));
                break;
            }
            case 17:
                same("joinAlike(" + a + ")", x.joinAlike(a), m.joinAlike(a));
                break;
            case 18:
                same("assign() again", x.assign(), m.assign());
                same("readModulus() again", x.readModulus(), m.readModulus());
                break;
            case 19:
                for (int k = random.nextInt(6); k >= 0; k--) {
                    same("undo()", x.undo(), m.undo());
                }
                break;
            case 20:
                same("keep()", x.keep(), m.keep());
                break;
            case 21:
                same("restore()", x.restore(), m.restore());
                break;
            case 22: {
                char c = (char) (random.nextBoolean() ? random.nextInt(65536) : 32 + random.nextInt(95));
                same("type(" + (int) c + ")", x.type(c), m.type(c));
                break;
            }
            default: {
                // A number that is nothing in some branches is what parts them.
                text((char) ('a' + random.nextInt(6)) + "=x-" + random.nextInt(10));
                same("assign()", x.assign(), m.assign());
                break;
            }
        }
    }

    private void ask() {
        int a = register();
        int b = branch();
        int n = place();
        switch (random.nextInt(12)) {
            case 0:
                same("modulus(" + n + ")", x.modulus(n), m.modulus(n));
                break;
            case 1: case 2:
                same("number(" + a + ", " + n + ")", x.number(a, n), m.number(a, n));
                break;
            case 3:
                same("branch(" + b + ", " + n + ")", x.branch(b, n), m.branch(b, n));
                break;
            case 4:
                same("seen(" + a + ", " + b + ", " + n + ")", x.seen(a, b, n), m.seen(a, b, n));
                break;
            case 5:
                same("kind(" + a + ", " + b + ")", x.kind(a, b), m.kind(a, b));
                break;
            case 6:
                same("unit(" + b + ", " + n + ")", x.unit(b, n), m.unit(b, n));
                break;
            case 7: {
                int e = random.nextInt(6) == 0 ? 999999 + random.nextInt(3) : pick(random.nextBoolean() ? 9 : 1000001);
                same("power(" + a + ", " + e + ", " + n + ")", x.power(a, e, n), m.power(a, e, n));
                break;
            }
            case 8:
                same("leastPolynomial(" + a + ", " + n + ")", x.leastPolynomial(a, n), m.leastPolynomial(a, n));
                break;
            case 9:
                same("trace(" + a + ")", x.trace(a), m.trace(a));
                same("order(" + a + ")", x.order(a), m.order(a));
                break;
            case 10: {
                int d = 1 + pick(6);
                same("factors(" + d + ")", x.factors(d), m.factors(d));
                break;
            }
            default: {
                int what = pick(8);
                same("count(" + what + ")", x.count(what), m.count(what));
                break;
            }
        }
    }

    // ---- texts

    private String polynomialText() {
        int p = m.count(0);
        StringBuilder text = new StringBuilder();
        for (int k = random.nextInt(7); k > 0; k--) {
            text.append(random.nextInt(p + random.nextInt(2))).append(',');
        }
        return text.append(random.nextInt(8) == 0 ? random.nextInt(13) : 1).toString();
    }

    /** A product of small polynomials, which has many branches. */
    private String productText() {
        if (random.nextInt(4) == 0) {
            return polynomialText();
        }
        int p = m.count(0);
        int[] product = {1};
        int degree = 1 + random.nextInt(6);
        while (product.length <= degree) {
            int own = Math.min(degree + 1 - product.length, 1 + random.nextInt(1 + random.nextInt(3)));
            int[] factor = new int[own + 1];
            for (int k = 0; k < own; k++) {
                factor[k] = random.nextInt(p);
            }
            factor[own] = 1;
            int[] longer = new int[product.length + own];
            for (int i = 0; i < product.length; i++) {
                for (int k = 0; k <= own; k++) {
                    longer[i + k] = (longer[i + k] + product[i] * factor[k]) % p;
                }
            }
            product = longer;
        }
        StringBuilder text = new StringBuilder();
        for (int k = 0; k < product.length; k++) {
            text.append(k == 0 ? "" : ",").append(product[k]);
        }
        return text.toString();
    }

    private String assignment() {
        return (char) ('a' + random.nextInt(6)) + "=" + expression(random.nextInt(4) == 0 ? 6 : 2);
    }

    private String expression(int depth) {
        StringBuilder text = new StringBuilder(product(depth));
        while (random.nextInt(3) == 0) {
            text.append(random.nextBoolean() ? '+' : '-').append(product(depth));
        }
        return text.toString();
    }

    private String product(int depth) {
        StringBuilder text = new StringBuilder(factor(depth));
        while (random.nextInt(2) == 0) {
            text.append(random.nextBoolean() ? '*' : '/').append(factor(depth));
        }
        return text.toString();
    }

    private String factor(int depth) {
        String simple;
        int what = random.nextInt(depth > 0 ? 8 : 6);
        if (what < 3) {
            simple = String.valueOf((char) ('a' + random.nextInt(6)));
        } else if (what == 3) {
            simple = String.valueOf(random.nextInt(10));
        } else if (what < 6) {
            simple = "x";
        } else {
            simple = "(" + expression(depth - 1) + ")";
        }
        return random.nextInt(4) == 0 ? simple + "^" + random.nextInt(10) : simple;
    }

    private String spoilt(String text) {
        StringBuilder spoilt = new StringBuilder(text);
        int place = random.nextInt(text.length() + 1);
        String signs = "abcdefghxX0123456789+-*/^()=,. ";
        char sign = signs.charAt(random.nextInt(signs.length()));
        switch (random.nextInt(4)) {
            case 0:
                spoilt.setLength(place);
                break;
            case 1:
                spoilt.insert(place, sign);
                break;
            case 2:
                spoilt.replace(place, Math.min(place + 1, text.length()), "");
                break;
            default:
                spoilt.replace(place, Math.min(place + 1, text.length()), String.valueOf(sign));
                break;
        }
        return spoilt.toString();
    }
}
