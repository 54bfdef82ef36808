/** The edges of the part "Polynomials" of the terms, and of promises 1 to 3: a sentence of the document each. */
public final class PolynomialEdgesTest {
    private static final Check CHECK = new Check("PolynomialEdgesTest");
    private static final int[] PRIMES = {2, 3, 5, 7, 11, 13};

    public static void main(String[] args) {
        primes();
        primeAtFirst();
        coefficientsFromZeroToThePrimeLessOne();
        reckonedModuloThePrime();
        degreeOfNothing();
        monic();
        degreesOfModuli();
        squares();
        modulusAtFirst();
        setPrimeStartsAnew();
        setPrimeThatIsSoAlready();
        modulusBecomesTheText();
        coefficientsOfThePrimeOrMore();
        modulusThatIsThereAlready();
        orderOfTheChecksOfReadModulus();
        restsByTheModulus();
        CHECK.done();
    }

    /** A state with a full history, another one kept, and a text that can be assigned. */
    private static void rich(SplitTowers x) {
        x.setPrime(7);
        Check.readModulus(x, "0,6,0,1");
        Check.assign(x, "b=x+3");
        x.keep();
        Check.assign(x, "a=x/(x-1)");
        Check.assign(x, "c=a*b+2");
    }

    private static void primes() {
        CHECK.sentence("There is a prime p (2, 3, 5, 7, 11 or 13");
        for (int prime : PRIMES) {
            SplitTowers x = new SplitTowers();
            int previous = prime == 11 ? 13 : 11;
            x.setPrime(previous);
            CHECK.due("setPrime(" + prime + ")", x.setPrime(prime), previous);
            CHECK.due("count(0)", x.count(0), prime);
        }
        Twins twins = new Twins(CHECK, PolynomialEdgesTest::rich);
        for (int no = -14; no <= 40; no++) {
            int other = no;
            if (no != 2 && no != 3 && no != 5 && no != 7 && no != 11 && no != 13) {
                twins.changesNothing("setPrime(" + no + ")", SplitTowers.BAD_VALUE, x -> x.setPrime(other));
            }
        }
        for (int no : new int[] {Integer.MAX_VALUE, Integer.MIN_VALUE, 65536 + 5, 1 << 30, -65536 + 7, 169, 121}) {
            twins.changesNothing("setPrime(" + no + ")", SplitTowers.BAD_VALUE, x -> x.setPrime(no));
        }
    }

    private static void primeAtFirst() {
        CHECK.sentence("at first 5");
        SplitTowers x = new SplitTowers();
        CHECK.due("count(0)", x.count(0), 5);
        CHECK.due("setPrime(5)", x.setPrime(5), SplitTowers.NONE);
        CHECK.due("setNumber(0, 0, 5)", x.setNumber(0, 0, 5), SplitTowers.BAD_VALUE);
        CHECK.due("setNumber(0, 0, 4)", x.setNumber(0, 0, 4), 0);
        CHECK.due("setPrime(2)", x.setPrime(2), 5);
    }

    private static void coefficientsFromZeroToThePrimeLessOne() {
        CHECK.sentence("A polynomial has coefficients from 0 to p - 1");
        for (int prime : PRIMES) {
            SplitTowers x = new SplitTowers();
            x.setPrime(prime);
            int greatest = prime - 1;
            CHECK.due("setNumber(0, 0, p)", x.setNumber(0, 0, prime), SplitTowers.BAD_VALUE);
            CHECK.due("setNumber(0, 0, -1)", x.setNumber(0, 0, -1), SplitTowers.BAD_VALUE);
            CHECK.due("setNumber(0, 0, p - 1)", x.setNumber(0, 0, greatest), 0);
            CHECK.due("number(0, 0)", x.number(0, 0), greatest);
            CHECK.due("readModulus of " + greatest + ",1", Check.readModulus(x, greatest + ",1"), 1);
            CHECK.due("modulus(0)", x.modulus(0), greatest);
        }
    }

    private static void reckonedModuloThePrime() {
        CHECK.sentence("and is reckoned with modulo p");
        for (int prime : PRIMES) {
            SplitTowers x = new SplitTowers();
            x.setPrime(prime);
            x.setNumber(1, 0, prime - 1);
            value(x, "a=b+1", 0);
            value(x, "a=b+b", prime - 2);
            value(x, "a=0-1", prime - 1);
            value(x, "a=0-b", 1);
            value(x, "a=b*b", 1);
            value(x, "a=1/b", prime - 1);
            value(x, "a=b^9", prime - 1);
            for (int digit = 0; digit <= 9; digit++) {
                value(x, "a=" + digit, digit % prime);
            }
        }
    }

    private static void value(SplitTowers x, String text, int want) {
        CHECK.due(text + " over " + x.count(0), Check.assign(x, text), 1);
        CHECK.due("number(0, 0) by " + text + " over " + x.count(0), x.number(0, 0), want);
    }

    private static void degreeOfNothing() {
        CHECK.sentence("The degree of the polynomial 0 is -1");
        SplitTowers x = Check.withModulus(5, "0,4,0,1");
        CHECK.due("kind(0, 0)", x.kind(0, 0), 0);
        CHECK.due("part(0)", x.part(0), SplitTowers.NONE);
        CHECK.due("joinAlike(0)", x.joinAlike(0), SplitTowers.NONE);
        CHECK.due("order(0)", x.order(0), SplitTowers.NONE);
        CHECK.row("leastPolynomial(0, ..)", k -> x.leastPolynomial(0, k), 0, 1, SplitTowers.NONE);
        x.setNumber(0, 2, 3);
        x.setNumber(0, 2, 0);
        CHECK.due("kind(0, 0) when it is nothing again", x.kind(0, 0), 0);
        CHECK.due("count(5) when it is nothing again", x.count(5), 6);
        Check.assign(x, "a=x-x");
        CHECK.due("kind(0, 0) of a difference", x.kind(0, 0), 0);
        CHECK.due("count(5)", x.count(5), 6);
        Check.assign(x, "a=x^3-x");
        CHECK.due("count(5) of a rest", x.count(5), 6);
    }

    private static void monic() {
        CHECK.sentence("A polynomial is monic if it is not 0 and its greatest coefficient (that of its degree) is 1");
        for (int prime : PRIMES) {
            Twins twins = new Twins(CHECK, x -> x.setPrime(prime));
            for (String no : new String[] {"0", "0,0", "0,0,0,0,0,0,0", "1,0", "0,1,0", "1,1,0", "0,0,0,0,0,1,0"}) {
                refused(twins, no, SplitTowers.BAD_VALUE);
            }
            for (int greatest = 2; greatest < prime; greatest++) {
                refused(twins, "1," + greatest, SplitTowers.BAD_VALUE);
                refused(twins, "1,1,0," + greatest, SplitTowers.BAD_VALUE);
            }
            CHECK.due("readModulus of 1,1", Check.readModulus(new SplitTowers(), "1,1"), 1);
        }
    }

    /** The text is there already when the modulus is read, so that the reading alone is what changes nothing. */
    private static void refused(Twins twins, String text, int want) {
        twins.changesNothing("readModulus of " + text, want, x -> Check.readModulus(x, text), x -> Check.text(x, text));
    }

    private static void degreesOfModuli() {
        CHECK.sentence("a monic polynomial of a degree from 1 to 6");
        String[] texts = {"1,1", "2,0,1", "1,1,0,1", "2,0,0,0,1", "0,4,0,0,0,1", "2,0,0,0,0,0,1"};
        for (int degree = 1; degree <= 6; degree++) {
            SplitTowers x = new SplitTowers();
            CHECK.due("readModulus of " + texts[degree - 1], Check.readModulus(x, texts[degree - 1]), degree);
            CHECK.due("count(1)", x.count(1), degree);
            CHECK.due("modulus(degree)", x.modulus(degree), 1);
            CHECK.due("modulus(degree + 1)", x.modulus(degree + 1), SplitTowers.NONE);
        }
        Twins twins = new Twins(CHECK, PolynomialEdgesTest::rich);
        refused(twins, "1", SplitTowers.BAD_VALUE);
        refused(twins, "0", SplitTowers.BAD_VALUE);
        refused(twins, "2", SplitTowers.BAD_VALUE);
        refused(twins, "1,0,0,0,0,0,0,1", -100 - 13);
        refused(twins, "1,1,0,0,0,0,1,", -100 - 13);
    }

    private static void squares() {
        CHECK.sentence("which has no square of a polynomial of degree 1 or more as a factor");
        // (x+1)^2; x^2; (x^2+x+1)^2; (x^3+x+1)^2; x(x+1)^2; x^2(x^4+x+1); (x+1)^4
        squares(2, "1,0,1", "0,0,1", "1,0,1,0,1", "1,0,1,0,0,0,1", "0,1,0,1", "0,0,1,1,0,0,1", "1,0,0,0,1");
        // (x+1)^3; (x^2+1)^2; (x^3+2x+1)^2; (x-1)^2; (x^2+1)^3; x(x^2+1)^2
        squares(3, "1,0,0,1", "1,0,2,0,1", "1,1,1,2,1,0,1", "1,1,1", "1,0,0,0,0,0,1", "0,1,0,2,0,1");
        // (x-1)^5; x^5; x(x-1)^5; x^6; (x^2+2)^2
        squares(5, "4,0,0,0,0,1", "0,0,0,0,0,1", "0,4,0,0,0,0,1", "0,0,0,0,0,0,1", "4,0,4,0,1");
        // (x-1)^2; x^2(x+1)
        squares(7, "1,5,1", "0,0,1,1");
        squares(11, "1,9,1", "0,0,1,1");
        squares(13, "1,11,1", "0,0,0,12,0,0,1");
        wholes(2, "1,1,1", "0,1,1", "1,1,0,0,1", "1,1,0,0,0,0,1", "0,1,0,0,1", "1,0,0,1", "1,0,0,0,0,1");
        wholes(3, "0,2,0,1", "1,0,1", "2,0,0,0,1", "1,2,0,1", "0,1,2,0,1");
        wholes(5, "0,4,0,0,0,1", "4,0,0,0,1", "1,4,0,0,0,1", "4,0,0,0,0,0,1");
        wholes(7, "6,0,0,0,0,0,1", "0,1,1");
        wholes(11, "1,8,1", "10,0,0,0,0,1");
        wholes(13, "1,12,1", "12,0,0,0,0,0,1");
    }

    private static void squares(int prime, String... texts) {
        for (String text : texts) {
            refused(new Twins(CHECK, x -> x.setPrime(prime)), text, SplitTowers.NOT_POSSIBLE);
        }
    }

    private static void wholes(int prime, String... texts) {
        for (String text : texts) {
            SplitTowers x = new SplitTowers();
            x.setPrime(prime);
            int degree = text.split(",").length - 1;
            CHECK.due("readModulus of " + text + " over " + prime, Check.readModulus(x, text), degree);
        }
    }

    private static void modulusAtFirst() {
        CHECK.sentence("at first x");
        SplitTowers x = new SplitTowers();
        CHECK.modulus(x, 0, 1);
        CHECK.due("count(1)", x.count(1), 1);
        CHECK.due("readModulus of 0,1", Check.readModulus(x, "0,1"), SplitTowers.NONE);
        CHECK.due("a=x", Check.assign(x, "a=x"), 1);
        CHECK.due("number(0, 0)", x.number(0, 0), 0);
    }

    private static void setPrimeStartsAnew() {
        CHECK.sentence("Takes another prime: the modulus becomes x, all registers 0");
        Twins twins = new Twins(CHECK, x -> {
            Check.readModulus(x, "0,4,0,1");
            Check.assign(x, "a=x/(x-1)");
            x.keep();
            Check.assign(x, "f=a+2");
        });
        for (int prime : new int[] {2, 3, 7, 11, 13}) {
            twins.isAnAct("setPrime(" + prime + ")", 5, x -> x.setPrime(prime));
        }
        SplitTowers x = new SplitTowers();
        rich(x);
        CHECK.due("count(2) before", x.count(2), 2);
        CHECK.due("setPrime(2)", x.setPrime(2), 7);
        CHECK.row("count(..)", x::count, 2, 1, 1, 1, 1, 6, 4, 7);
        CHECK.modulus(x, 0, 1);
        CHECK.branch(x, 0, 0, 1);
        for (int k = 0; k < 6; k++) {
            CHECK.number(x, k, 0);
        }
        SplitTowers y = new SplitTowers();
        y.setNumber(3, 0, 4);
        CHECK.due("setPrime(13) when the modulus is x", y.setPrime(13), 5);
        CHECK.number(y, 3, 0);
        CHECK.due("setPrime(5) back again", y.setPrime(5), 13);
        CHECK.number(y, 3, 0);
    }

    private static void setPrimeThatIsSoAlready() {
        CHECK.sentence("Returns the previous one; BAD_VALUE; NONE if it is so already");
        for (int prime : PRIMES) {
            Twins twins = new Twins(CHECK, x -> {
                x.setPrime(prime);
                Check.readModulus(x, "0,1,1");
                Check.assign(x, "a=x/(x+1)");
                x.keep();
                Check.assign(x, "b=a+1");
            });
            twins.changesNothing("setPrime(" + prime + ")", SplitTowers.NONE, x -> x.setPrime(prime));
        }
    }

    private static void modulusBecomesTheText() {
        CHECK.sentence("Makes the polynomial of the text, which stays, the modulus");
        SplitTowers x = new SplitTowers();
        CHECK.due("readModulus of 1,2,3,4,0,1,1", Check.readModulus(x, "1,2,3,4,0,1,1"), 6);
        CHECK.modulus(x, 1, 2, 3, 4, 0, 1, 1);
        CHECK.due("count(7)", x.count(7), 13);
        CHECK.due("readModulus() of the same text", x.readModulus(), SplitTowers.NONE);
        x.setPrime(7);
        CHECK.due("count(7) after setPrime", x.count(7), 13);
        x.clearText();
        CHECK.due("readModulus() of no text", x.readModulus(), -100);
        new Twins(CHECK, PolynomialEdgesTest::parted).isAnAct("readModulus()", 2, SplitTowers::readModulus);
    }

    private static void parted(SplitTowers x) {
        Check.readModulus(x, "0,4,0,1");
        Check.assign(x, "a=x/(x-1)+x^2");
        x.keep();
        Check.text(x, "3,0,1");
    }

    private static void coefficientsOfThePrimeOrMore() {
        CHECK.sentence("BAD_VALUE if any coefficient is p or more");
        for (int prime : PRIMES) {
            Twins twins = new Twins(CHECK, x -> x.setPrime(prime));
            for (int no = prime; no <= 12; no++) {
                refused(twins, no + ",1", SplitTowers.BAD_VALUE);
                refused(twins, "1," + no + ",0,1", SplitTowers.BAD_VALUE);
                refused(twins, "1,0,0,0,0," + no + ",1", SplitTowers.BAD_VALUE);
                refused(twins, "1,0," + no, SplitTowers.BAD_VALUE);
            }
            SplitTowers x = new SplitTowers();
            x.setPrime(prime);
            int greatest = prime - 1;
            CHECK.due("the greatest one at the number 0", Check.readModulus(x, greatest + ",1"), 1);
            CHECK.due("the greatest one at the number 1", Check.readModulus(x, "0," + greatest + ",1"), 2);
            CHECK.modulus(x, 0, greatest, 1);
        }
    }

    private static void modulusThatIsThereAlready() {
        CHECK.sentence("NONE if it is the modulus already");
        Twins twins = new Twins(CHECK, x -> {
            parted(x);
            Check.text(x, "0,4,0,1");
        });
        twins.changesNothing("readModulus()", SplitTowers.NONE, SplitTowers::readModulus);
        SplitTowers x = new SplitTowers();
        parted(x);
        CHECK.due("of another constant", Check.readModulus(x, "1,4,0,1"), 3);
        CHECK.due("of another degree", Check.readModulus(x, "1,4,1"), 2);
        CHECK.due("of 1,4,1", Check.readModulus(x, "1,4,1"), SplitTowers.NONE);
    }

    private static void orderOfTheChecksOfReadModulus() {
        CHECK.sentence("Where several errors can apply, the order of the @return line is the order of the checks");
        Twins twins = new Twins(CHECK, PolynomialEdgesTest::parted);
        refused(twins, "12,12,", -100 - 6);
        refused(twins, "5,13", -100 - 3);
        refused(twins, "0,0,1,", -100 - 6);
        refused(twins, "5,0,1", SplitTowers.BAD_VALUE);
        refused(twins, "0,5,1", SplitTowers.BAD_VALUE);
        refused(twins, "0,0,2", SplitTowers.BAD_VALUE);
        refused(twins, "0,4,0,6", SplitTowers.BAD_VALUE);
        refused(twins, "5,4,0,1", SplitTowers.BAD_VALUE);
        refused(twins, "0,0,1", SplitTowers.NOT_POSSIBLE);
        refused(new Twins(CHECK, x -> x.setPrime(2)), "2,1", SplitTowers.BAD_VALUE);
    }

    private static void restsByTheModulus() {
        CHECK.sentence("the numbers in the registers become their rests by it");
        SplitTowers x = Check.withModulus(7, "3,0,0,0,0,0,1");
        for (int k = 0; k < 6; k++) {
            Check.assign(x, (char) ('a' + k) + "=x^" + k + "+x^5");
        }
        CHECK.due("readModulus of 5,0,1", Check.readModulus(x, "5,0,1"), 2);
        // x^2 is 2, so x^5 is 4x.
        CHECK.number(x, 0, 1, 4);
        CHECK.number(x, 1, 0, 5);
        CHECK.number(x, 2, 2, 4);
        CHECK.number(x, 3, 0, 6);
        CHECK.number(x, 4, 4, 4);
        CHECK.number(x, 5, 0, 1);
        CHECK.due("readModulus of 4,0,0,1", Check.readModulus(x, "4,0,0,1"), 3);
        CHECK.number(x, 0, 1, 4, 0);
        CHECK.due("readModulus of 6,1", Check.readModulus(x, "6,1"), 1);
        CHECK.number(x, 0, 5);
        CHECK.number(x, 4, 1);
        CHECK.number(x, 5, 1);
    }
}
