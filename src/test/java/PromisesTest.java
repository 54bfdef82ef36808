/** The promises 1 to 27, one after the other: what each of them does and tells, under its own words. */
public final class PromisesTest {
    private static final Check CHECK = new Check("PromisesTest");
    private static final int UNKNOWN = SplitTowers.UNKNOWN;
    private static final int BAD_VALUE = SplitTowers.BAD_VALUE;
    private static final int FULL = SplitTowers.FULL;
    private static final int NOT_POSSIBLE = SplitTowers.NOT_POSSIBLE;
    private static final int NONE = SplitTowers.NONE;

    public static void main(String[] args) {
        aNewObject();
        setPrime();
        readModulus();
        setNumber();
        assign();
        put();
        part();
        partByDegrees();
        join();
        joinAlike();
        type();
        clearText();
        undo();
        keep();
        restore();
        modulus();
        number();
        branch();
        seen();
        kind();
        unit();
        power();
        leastPolynomial();
        trace();
        order();
        factors();
        count();
        CHECK.done();
    }

    /** The roots 1, 2 and 3 over 7, in the branches x + 4, x + 5 and x + 6, so that the roots go from 3 to 1; a is x. */
    private static SplitTowers threeRoots() {
        SplitTowers x = Check.withModulus(7, "1,4,1,1");
        CHECK.due("the branches", Check.assign(x, "a=x+0/(x-1)+0/(x-2)"), 3);
        return x;
    }

    private static void aNewObject() {
        CHECK.sentence("Creates it with the prime 5 and the modulus x.");
        SplitTowers x = new SplitTowers();
        CHECK.row("count(..)", x::count, 5, 1, 1, 1, 1, 6, 0, 0, BAD_VALUE);
        CHECK.modulus(x, 0, 1);
        CHECK.branch(x, 0, 0, 1);
        CHECK.row("number(.., 0)", k -> x.number(k, 0), 0, 0, 0, 0, 0, 0, UNKNOWN);
        CHECK.due("undo()", x.undo(), NONE);
        CHECK.due("restore()", x.restore(), NONE);
        CHECK.due("clearText()", x.clearText(), 0);
    }

    private static void setPrime() {
        CHECK.sentence("Takes another prime: the modulus becomes x, all registers 0.");
        SplitTowers x = threeRoots();
        CHECK.due("setPrime(13)", x.setPrime(13), 7);
        CHECK.modulus(x, 0, 1);
        CHECK.row("count(..)", x::count, 13, 1, 1, 1, 1, 6, 4, 19);
        CHECK.due("undo()", x.undo(), 3);
        CHECK.due("count(2)", x.count(2), 3);
        CHECK.sentence("Returns the previous one; BAD_VALUE; NONE if it is so already.");
        CHECK.due("setPrime(7)", x.setPrime(7), NONE);
        CHECK.due("setPrime(1)", x.setPrime(1), BAD_VALUE);
        CHECK.due("setPrime(17)", x.setPrime(17), BAD_VALUE);
        CHECK.due("setPrime(9)", x.setPrime(9), BAD_VALUE);
        CHECK.due("count(6)", x.count(6), 3);
        CHECK.due("setPrime(2)", x.setPrime(2), 7);
        CHECK.due("setPrime(3)", x.setPrime(3), 2);
    }

    private static void readModulus() {
        CHECK.sentence("Makes the polynomial of the text, which stays, the modulus; "
            + "the numbers in the registers become their rests by it.");
        SplitTowers x = threeRoots();
        Check.assign(x, "a=3*x^2+x");
        for (int register = 1; register < 6; register++) {
            x.setNumber(register, 2, 1);
            x.setNumber(register, 0, register);
        }
        CHECK.due("readModulus()", Check.readModulus(x, "6,0,1"), 2);
        CHECK.due("count(7)", x.count(7), 5);
        CHECK.modulus(x, 6, 0, 1);
        CHECK.due("count(2)", x.count(2), 1);
        CHECK.number(x, 0, 3, 1);
        for (int register = 1; register < 6; register++) {
            CHECK.number(x, register, register + 1, 0);
        }
        CHECK.due("undo()", x.undo(), 3);
        CHECK.number(x, 0, 0, 1, 3);
        CHECK.number(x, 5, 5, 0, 1);
        CHECK.due("count(2)", x.count(2), 3);
        CHECK.sentence("Returns its degree; -100 minus the fault of the text, read as a polynomial, if it has one (which is "
            + "an error); BAD_VALUE if any coefficient is p or more, or it is not monic as it is told (its last coefficient "
            + "is not 1), or its degree is 0; NOT_POSSIBLE if it has a square as a factor; NONE if it is the modulus "
            + "already.");
        String[] texts = {"6,0,1,", "6,0,x", "", "7,0,1", "6,9,1", "6,0,3", "6,1,0", "1", "0", "2,3,1", "1,2,1", "1,4,1,1"};
        int[] due = {-106, -104, -100, BAD_VALUE, BAD_VALUE, BAD_VALUE, BAD_VALUE, BAD_VALUE, BAD_VALUE, 2, NOT_POSSIBLE,
            NONE};
        for (int k = 0; k < texts.length; k++) {
            SplitTowers y = threeRoots();
            CHECK.due("readModulus of " + texts[k], Check.readModulus(y, texts[k]), due[k]);
            CHECK.due("count(2)", y.count(2), due[k] > 0 ? 1 : 3);
            CHECK.due("count(6)", y.count(6), due[k] > 0 ? 4 : 3);
        }
    }

    private static void setNumber() {
        CHECK.sentence("Sets a coefficient of a number.");
        SplitTowers x = threeRoots();
        CHECK.due("setNumber(0, 2, 6)", x.setNumber(0, 2, 6), 0);
        CHECK.number(x, 0, 0, 1, 6);
        CHECK.due("setNumber(0, 1, 0)", x.setNumber(0, 1, 0), 1);
        CHECK.number(x, 0, 0, 0, 6);
        CHECK.due("undo()", x.undo(), 3);
        CHECK.number(x, 0, 0, 1, 6);
        CHECK.sentence("Returns the previous coefficient; UNKNOWN; BAD_VALUE; NONE if it is so already.");
        CHECK.due("setNumber(0, 2, 5)", x.setNumber(0, 2, 5), 6);
        CHECK.due("setNumber(6, 3, 7)", x.setNumber(6, 3, 7), UNKNOWN);
        CHECK.due("setNumber(-1, 0, 1)", x.setNumber(-1, 0, 1), UNKNOWN);
        CHECK.due("setNumber(0, 3, 0)", x.setNumber(0, 3, 0), BAD_VALUE);
        CHECK.due("setNumber(0, -1, 0)", x.setNumber(0, -1, 0), BAD_VALUE);
        CHECK.due("setNumber(0, 0, 7)", x.setNumber(0, 0, 7), BAD_VALUE);
        CHECK.due("setNumber(0, 0, -1)", x.setNumber(0, 0, -1), BAD_VALUE);
        CHECK.due("setNumber(0, 2, 5)", x.setNumber(0, 2, 5), NONE);
        CHECK.due("count(6)", x.count(6), 4);
    }

    private static void assign() {
        CHECK.sentence("Does the assignment of the text, which stays: the register gets what the expression tells; "
            + "branches are parted by its quotients.");
        SplitTowers x = Check.withModulus(7, "1,4,1,1");
        Check.text(x, "c=3*x/(x-2)");
        CHECK.due("assign()", x.assign(), 2);
        CHECK.due("count(7)", x.count(7), 11);
        CHECK.branch(x, 0, 5, 1);
        CHECK.branch(x, 1, 3, 3, 1);
        // It is 3 / -1, 0 and 9 / 1 at 1, 2 and 3.
        CHECK.row("number to the root 1", k -> valueAt(x, k), 4, 0, 2);
        CHECK.due("undo()", x.undo(), 2);
        CHECK.due("count(2)", x.count(2), 1);
        CHECK.number(x, 2, 0, 0, 0);
        CHECK.sentence("Returns how many branches there are then; -100 minus the fault of the text, read as an assignment, "
            + "if it has one (which is an error).");
        CHECK.due("assign()", x.assign(), 2);
        CHECK.due("the fault of a text that ends too early", Check.assign(x, "a=1/(x-1"), -108);
        CHECK.due("the fault of a sign", Check.assign(x, "a=1/(x-1)!"), -109);
        CHECK.due("count(2)", x.count(2), 2);
        CHECK.due("a third branch", Check.assign(x, "a=1/(x-1)"), 3);
        CHECK.due("no more of them", Check.assign(x, "a=1/(x-1)"), 3);
    }

    /** What the register c is at the roots 1, 2 and 3. */
    private static int valueAt(SplitTowers x, int number) {
        int root = number + 1;
        return (x.number(2, 0) + root * x.number(2, 1) + root * root * x.number(2, 2)) % 7;
    }

    private static void put() {
        CHECK.sentence("Puts a number together: it becomes the number that is in a branch what it is there, "
            + "and in all others what another register has.");
        SplitTowers x = threeRoots();
        Check.assign(x, "b=5");
        CHECK.due("put(0, 1, 1)", x.put(0, 1, 1), 2);
        CHECK.row("seen(0, .., 0)", k -> x.seen(0, k, 0), 5, 2, 5);
        CHECK.number(x, 1, 5, 0, 0);
        CHECK.due("undo()", x.undo(), 3);
        CHECK.number(x, 0, 0, 1, 0);
        CHECK.number(x, 1, 5, 0, 0);
        CHECK.sentence("Returns in how many branches the number becomes another one; UNKNOWN (register, branch or other); "
            + "BAD_VALUE if both registers are the same; NONE if in none.");
        Check.assign(x, "b=3");
        CHECK.due("put where one is the same already", x.put(0, 1, 1), 1);
        CHECK.row("seen(0, .., 0)", k -> x.seen(0, k, 0), 3, 2, 3);
        CHECK.due("put(0, 1, 1)", x.put(0, 1, 1), NONE);
        CHECK.due("put(0, 2, 0)", x.put(0, 2, 0), BAD_VALUE);
        CHECK.due("put(6, 0, 0)", x.put(6, 0, 0), UNKNOWN);
        CHECK.due("put(0, 3, 0)", x.put(0, 3, 0), UNKNOWN);
        CHECK.due("put(0, 0, -1)", x.put(0, 0, -1), UNKNOWN);
    }

    private static void part() {
        CHECK.sentence("Parts the branches by a number.");
        SplitTowers x = Check.withModulus(7, "1,4,1,1");
        Check.assign(x, "d=2*(x-1)*(x-3)");
        CHECK.due("part(3)", x.part(3), 1);
        CHECK.branch(x, 0, 5, 1);
        CHECK.branch(x, 1, 3, 3, 1);
        CHECK.due("undo()", x.undo(), 3);
        CHECK.branch(x, 0, 1, 4, 1, 1);
        CHECK.sentence("Returns in how many branches the number is nothing then; UNKNOWN; NONE if no branch is parted.");
        Check.assign(x, "e=x-3");
        CHECK.due("part(4)", x.part(4), 1);
        CHECK.due("part(3)", x.part(3), 2);
        CHECK.due("part(3) again", x.part(3), NONE);
        CHECK.due("part(0)", x.part(0), NONE);
        CHECK.due("part(6)", x.part(6), UNKNOWN);
        CHECK.due("part(-1)", x.part(-1), UNKNOWN);
    }

    private static void partByDegrees() {
        CHECK.sentence("Parts the branches by degrees.");
        // (x+1)(x+2)(x^2+1)(x^2+x+2) over 3; the last two have no root.
        SplitTowers x = Check.withModulus(3, "1,2,2,0,2,1,1");
        CHECK.due("partByDegrees()", x.partByDegrees(), 2);
        CHECK.branch(x, 0, 2, 0, 1);
        CHECK.branch(x, 1, 2, 1, 0, 1, 1);
        CHECK.due("undo()", x.undo(), 2);
        CHECK.due("count(2)", x.count(2), 1);
        CHECK.sentence("Returns how many branches there are then; NONE if no branch is parted.");
        Check.assign(x, "a=0/((x+1)*(x^2+1))");
        CHECK.due("partByDegrees() of two", x.partByDegrees(), 4);
        CHECK.branch(x, 3, 2, 1, 1);
        CHECK.due("partByDegrees() again", x.partByDegrees(), NONE);
        CHECK.due("count(6)", x.count(6), 4);
    }

    private static void join() {
        CHECK.sentence("Joins two branches: they are replaced by their product.");
        SplitTowers x = threeRoots();
        CHECK.due("join(2, 0)", x.join(2, 0), 1);
        CHECK.due("count(2)", x.count(2), 2);
        CHECK.branch(x, 0, 5, 1);
        CHECK.branch(x, 1, 3, 3, 1);
        CHECK.due("undo()", x.undo(), 3);
        CHECK.branch(x, 2, 6, 1);
        CHECK.sentence("Returns the number of the new branch; UNKNOWN (one or other); BAD_VALUE if both are the same.");
        CHECK.due("join(0, 1)", x.join(0, 1), 1);
        CHECK.due("join(1, 0)", x.join(1, 0), 0);
        CHECK.due("join(0, 0)", x.join(0, 0), BAD_VALUE);
        CHECK.due("join(0, 1)", x.join(0, 1), UNKNOWN);
        CHECK.due("join(-1, 0)", x.join(-1, 0), UNKNOWN);
        CHECK.due("join(1, 1)", x.join(1, 1), UNKNOWN);
    }

    private static void joinAlike() {
        CHECK.sentence("Joins all branches in which a number is nothing to one, and all others to another one.");
        SplitTowers x = threeRoots();
        Check.assign(x, "b=x-2");
        CHECK.due("joinAlike(1)", x.joinAlike(1), 2);
        CHECK.branch(x, 0, 5, 1);
        CHECK.branch(x, 1, 3, 3, 1);
        CHECK.due("undo()", x.undo(), 3);
        CHECK.due("count(2)", x.count(2), 3);
        CHECK.sentence("Returns how many branches there are then; UNKNOWN; NOT_POSSIBLE if there is a branch in which the "
            + "number neither is nothing nor can be inverted; NONE if there are no two to be joined.");
        CHECK.due("joinAlike(1)", x.joinAlike(1), 2);
        CHECK.due("joinAlike(1) again", x.joinAlike(1), NONE);
        Check.assign(x, "c=x-1");
        CHECK.due("joinAlike(2)", x.joinAlike(2), NOT_POSSIBLE);
        CHECK.due("joinAlike(6)", x.joinAlike(6), UNKNOWN);
        CHECK.due("joinAlike(5), which is 0 in all", x.joinAlike(5), 1);
        CHECK.due("joinAlike(5) again", x.joinAlike(5), NONE);
        SplitTowers y = threeRoots();
        Check.assign(y, "b=(x-1)*(x-2)");
        CHECK.due("joinAlike(1), which is nothing in the greater one", y.joinAlike(1), 2);
        CHECK.branch(y, 0, 4, 1);
        CHECK.branch(y, 1, 2, 4, 1);
    }

    private static void type() {
        CHECK.sentence("Types a character behind the text.");
        SplitTowers x = new SplitTowers();
        CHECK.due("type('f')", x.type('f'), 1);
        CHECK.due("type('=')", x.type('='), 2);
        CHECK.due("type('4')", x.type('4'), 3);
        CHECK.due("assign()", x.assign(), 1);
        CHECK.due("number(5, 0)", x.number(5, 0), 4);
        CHECK.sentence("Returns the length of the text then; FULL if it has 60 characters.");
        for (int length = 4; length <= 60; length++) {
            CHECK.due("type((char) 0)", x.type((char) 0), length);
        }
        CHECK.due("type('1')", x.type('1'), FULL);
        CHECK.due("count(7)", x.count(7), 60);
        CHECK.due("the fault is the first of those signs", x.assign(), -103);
    }

    private static void clearText() {
        CHECK.sentence("Empties the text.");
        SplitTowers x = new SplitTowers();
        Check.text(x, "a=1");
        x.clearText();
        CHECK.due("count(7)", x.count(7), 0);
        CHECK.due("assign()", x.assign(), -100);
        CHECK.due("type('b')", x.type('b'), 1);
        CHECK.sentence("Returns the length that it had.");
        CHECK.due("clearText()", x.clearText(), 1);
        CHECK.due("clearText()", x.clearText(), 0);
        CHECK.due("count(6)", x.count(6), 0);
    }

    private static void undo() {
        CHECK.sentence("Removes and restores the latest state of the history.");
        SplitTowers x = threeRoots();
        x.join(0, 1);
        x.undo();
        CHECK.due("count(2)", x.count(2), 3);
        x.undo();
        CHECK.due("count(2)", x.count(2), 1);
        x.undo();
        CHECK.modulus(x, 0, 1);
        CHECK.sentence("Returns the number of states that are left; NONE if the history is empty.");
        CHECK.due("undo()", x.undo(), 0);
        CHECK.due("count(0)", x.count(0), 5);
        CHECK.due("undo()", x.undo(), NONE);
        CHECK.due("count(0)", x.count(0), 5);
    }

    private static void keep() {
        CHECK.sentence("Takes a snapshot of the state, in place of the one that was.");
        SplitTowers x = new SplitTowers();
        x.keep();
        SplitTowers y = threeRoots();
        y.keep();
        Check.assign(y, "a=4");
        y.keep();
        y.setPrime(2);
        y.restore();
        CHECK.number(y, 0, 4, 0, 0);
        CHECK.sentence("Returns how many branches there are.");
        CHECK.due("keep()", y.keep(), 3);
        CHECK.due("keep() of a new one", x.keep(), 1);
        CHECK.due("count(6), as it is no act", x.count(6), 0);
    }

    private static void restore() {
        CHECK.sentence("Restores the state of the snapshot, which stays.");
        SplitTowers x = threeRoots();
        x.keep();
        x.join(0, 1);
        x.setPrime(3);
        x.restore();
        CHECK.row("count(..)", x::count, 7, 3, 3, 3, 1, 5, 4, 19);
        CHECK.branch(x, 0, 4, 1);
        CHECK.number(x, 0, 0, 1, 0);
        CHECK.due("undo()", x.undo(), 3);
        CHECK.due("count(0)", x.count(0), 3);
        CHECK.sentence("Returns how many branches there are then; NONE if there is no snapshot.");
        CHECK.due("restore() of the one that stays", x.restore(), 3);
        CHECK.due("restore() of what is there", x.restore(), 3);
        CHECK.due("restore() of a new one", new SplitTowers().restore(), NONE);
    }

    private static void modulus() {
        CHECK.sentence("Returns the coefficient of f; BAD_VALUE if number is negative; NONE if it is greater than the degree.");
        SplitTowers x = threeRoots();
        CHECK.row("modulus(..)", x::modulus, 1, 4, 1, 1, NONE, NONE);
        CHECK.due("modulus(-1)", x.modulus(-1), BAD_VALUE);
        CHECK.due("modulus(MAX)", x.modulus(Integer.MAX_VALUE), NONE);
    }

    private static void number() {
        CHECK.sentence("Returns the coefficient of the number; UNKNOWN; BAD_VALUE.");
        SplitTowers x = threeRoots();
        Check.assign(x, "f=6*x^2+3");
        CHECK.row("number(5, ..)", k -> x.number(5, k), 3, 0, 6, BAD_VALUE, BAD_VALUE);
        CHECK.due("number(5, -1)", x.number(5, -1), BAD_VALUE);
        CHECK.due("number(6, 3)", x.number(6, 3), UNKNOWN);
        CHECK.due("number(-1, 0)", x.number(-1, 0), UNKNOWN);
    }

    private static void branch() {
        CHECK.sentence("Returns the coefficient of the branch; UNKNOWN; BAD_VALUE if number is negative; "
            + "NONE if it is greater than the degree.");
        SplitTowers x = threeRoots();
        x.join(1, 2);
        CHECK.row("branch(0, ..)", k -> x.branch(0, k), 4, 1, NONE, NONE);
        CHECK.row("branch(1, ..)", k -> x.branch(1, k), 2, 4, 1, NONE);
        CHECK.due("branch(1, -1)", x.branch(1, -1), BAD_VALUE);
        CHECK.due("branch(2, -1)", x.branch(2, -1), UNKNOWN);
        CHECK.due("branch(-1, 0)", x.branch(-1, 0), UNKNOWN);
    }

    private static void seen() {
        CHECK.sentence("Returns the coefficient of the number in the branch; UNKNOWN (register or branch); BAD_VALUE.");
        SplitTowers x = threeRoots();
        x.join(1, 2);
        Check.assign(x, "a=x^2");
        CHECK.row("seen(0, 0, ..)", k -> x.seen(0, 0, k), 2, BAD_VALUE);
        // By x^2 + 4x + 2, the rest of x^2 is 3x + 5.
        CHECK.row("seen(0, 1, ..)", k -> x.seen(0, 1, k), 5, 3, BAD_VALUE);
        CHECK.due("seen(0, 1, -1)", x.seen(0, 1, -1), BAD_VALUE);
        CHECK.due("seen(6, 0, 9)", x.seen(6, 0, 9), UNKNOWN);
        CHECK.due("seen(0, 2, 9)", x.seen(0, 2, 9), UNKNOWN);
    }

    private static void kind() {
        CHECK.sentence("Returns 0 if the number is nothing in the branch, 1 if it can be inverted there, 2 otherwise; "
            + "UNKNOWN (register or branch).");
        SplitTowers x = threeRoots();
        x.join(1, 2);
        Check.assign(x, "a=x-3");
        CHECK.row("kind(0, ..)", k -> x.kind(0, k), 0, 1, UNKNOWN);
        Check.assign(x, "a=x-2");
        CHECK.row("kind(0, ..)", k -> x.kind(0, k), 1, 2, UNKNOWN);
        Check.assign(x, "a=(x-1)*(x-2)");
        CHECK.row("kind(0, ..)", k -> x.kind(0, k), 1, 0, UNKNOWN);
        CHECK.due("kind(6, 0)", x.kind(6, 0), UNKNOWN);
        CHECK.due("kind(0, -1)", x.kind(0, -1), UNKNOWN);
    }

    private static void unit() {
        CHECK.sentence("Tells the number that is 1 in a branch, and nothing in all others.");
        SplitTowers x = threeRoots();
        // That of the root 3 is (x-1)(x-2)/2, that of the root 2 is -(x-1)(x-3).
        CHECK.row("unit(0, ..)", k -> x.unit(0, k), 1, 2, 4);
        CHECK.row("unit(1, ..)", k -> x.unit(1, k), 4, 4, 6);
        CHECK.sentence("Returns its coefficient; UNKNOWN; BAD_VALUE.");
        // (x-2)(x-3)/2
        CHECK.row("unit(2, ..)", k -> x.unit(2, k), 3, 1, 4, BAD_VALUE);
        CHECK.due("unit(2, -1)", x.unit(2, -1), BAD_VALUE);
        CHECK.due("unit(3, 3)", x.unit(3, 3), UNKNOWN);
        CHECK.due("unit(-1, 0)", x.unit(-1, 0), UNKNOWN);
    }

    private static void power() {
        CHECK.sentence("Returns the coefficient of the number to the power of the exponent (1, if this is 0); "
            + "UNKNOWN; BAD_VALUE.");
        // x^2 is 3, of the order 6, so that x^1000000 is 3^500000, which is 3^2.
        SplitTowers x = Check.withModulus(7, "4,0,1");
        Check.assign(x, "a=x");
        CHECK.row("power(0, 0, ..)", k -> x.power(0, 0, k), 1, 0, BAD_VALUE);
        CHECK.row("power(1, 0, ..)", k -> x.power(1, 0, k), 1, 0, BAD_VALUE);
        CHECK.row("power(0, 1, ..)", k -> x.power(0, 1, k), 0, 1, BAD_VALUE);
        CHECK.row("power(0, 5, ..)", k -> x.power(0, 5, k), 0, 2, BAD_VALUE);
        CHECK.row("power(0, 1000000, ..)", k -> x.power(0, 1000000, k), 2, 0, BAD_VALUE);
        CHECK.due("power(0, 1000001, 0)", x.power(0, 1000001, 0), BAD_VALUE);
        CHECK.due("power(0, -1, 0)", x.power(0, -1, 0), BAD_VALUE);
        CHECK.due("power(0, 0, -1)", x.power(0, 0, -1), BAD_VALUE);
        CHECK.due("power(6, -1, -1)", x.power(6, -1, -1), UNKNOWN);
    }

    private static void leastPolynomial() {
        CHECK.sentence("Tells of the least polynomial of a number: the monic polynomial of the least degree "
            + "that is 0 if the number is put in the place of x.");
        SplitTowers x = threeRoots();
        // It is 4, 0 and 0 at 1, 2 and 3, that is 0 and 4 in all.
        Check.assign(x, "b=2*(x-2)*(x-3)");
        CHECK.row("leastPolynomial(1, ..)", k -> x.leastPolynomial(1, k), 0, 3, 1, NONE);
        CHECK.row("leastPolynomial(0, ..)", k -> x.leastPolynomial(0, k), 1, 4, 1, 1, NONE);
        // x^6 is 2 there, so that (x-1)^6 - 2 is 0 if x + 1 is put in the place of x.
        SplitTowers y = Check.withModulus(7, "5,0,0,0,0,0,1");
        Check.assign(y, "c=x+1");
        CHECK.row("leastPolynomial(2, ..)", k -> y.leastPolynomial(2, k), 6, 1, 1, 1, 1, 1, 1, NONE);
        CHECK.sentence("Returns its coefficient; UNKNOWN; BAD_VALUE if number is negative; "
            + "NONE if it is greater than its degree.");
        CHECK.row("leastPolynomial(5, ..)", k -> x.leastPolynomial(5, k), 0, 1, NONE);
        CHECK.due("leastPolynomial(0, MAX)", x.leastPolynomial(0, Integer.MAX_VALUE), NONE);
        CHECK.due("leastPolynomial(0, -1)", x.leastPolynomial(0, -1), BAD_VALUE);
        CHECK.due("leastPolynomial(6, -1)", x.leastPolynomial(6, -1), UNKNOWN);
    }

    private static void trace() {
        CHECK.sentence("Tells the trace of a number: the sum, for k from 0 to the degree of f less 1, of the coefficients "
            + "with the number k of the products of the number and x to the power k (each modulo f).");
        SplitTowers x = threeRoots();
        // It is the sum of what the number is at the roots: 1 + 2 + 3, and 1 + 4 + 9.
        CHECK.due("trace of x", x.trace(0), 6);
        Check.assign(x, "b=x^2");
        CHECK.due("trace of x^2", x.trace(1), 0);
        Check.assign(x, "b=x^2+5");
        CHECK.due("trace of x^2 + 5", x.trace(1), 1);
        CHECK.sentence("Returns the trace, 0 to p - 1; UNKNOWN.");
        Check.assign(x, "b=0-x");
        CHECK.due("trace of -x", x.trace(1), 1);
        CHECK.due("trace of 0", x.trace(5), 0);
        CHECK.due("trace(6)", x.trace(6), UNKNOWN);
        CHECK.due("trace(-1)", x.trace(-1), UNKNOWN);
    }

    private static void order() {
        CHECK.sentence("Returns the least exponent above 0 with which the number to its power is 1; UNKNOWN; "
            + "NONE if there is none.");
        SplitTowers x = threeRoots();
        // The orders of 1, 2 and 3 modulo 7 are 1, 3 and 6, those of 1, 4 and 2 are 1, 3 and 3.
        CHECK.due("order of x", x.order(0), 6);
        Check.assign(x, "a=x^2");
        CHECK.due("order of x^2", x.order(0), 3);
        Check.assign(x, "a=1");
        CHECK.due("order of 1", x.order(0), 1);
        Check.assign(x, "a=x-1");
        CHECK.due("order of what is nothing in a branch", x.order(0), NONE);
        CHECK.due("order of 0", x.order(5), NONE);
        CHECK.due("order(6)", x.order(6), UNKNOWN);
        CHECK.due("order(-1)", x.order(-1), UNKNOWN);
        // x is of the order 63 modulo x^6 + x + 1 over 2, and of the orders 3 and 7 modulo x^2 + x + 1 and x^3 + x + 1.
        String[] moduli = {"1,1,0,0,0,0,1", "1,0,0,0,1,1", "1,1,1", "1,1,0,1", "1,1,0,0,1", "1,0,1,0,0,1"};
        int[] orders = {63, 21, 3, 7, 15, 31};
        for (int k = 0; k < moduli.length; k++) {
            SplitTowers y = Check.withModulus(2, moduli[k]);
            Check.assign(y, "a=x");
            CHECK.due("order of x modulo " + moduli[k], y.order(0), orders[k]);
        }
    }

    private static void factors() {
        CHECK.sentence("Returns how many irreducible factors of this degree f has; BAD_VALUE.");
        SplitTowers x = Check.withModulus(3, "1,2,2,0,2,1,1");
        CHECK.row("factors(..)", x::factors, BAD_VALUE, 2, 2, 0, 0, 0, 0, BAD_VALUE);
        CHECK.due("factors(-1)", x.factors(-1), BAD_VALUE);
        x.partByDegrees();
        CHECK.row("factors(..) of those that are parted", x::factors, BAD_VALUE, 2, 2, 0, 0, 0, 0, BAD_VALUE);
        SplitTowers y = Check.withModulus(2, "1,1,0,0,0,0,1");
        CHECK.row("factors(..) of an irreducible one", y::factors, BAD_VALUE, 0, 0, 0, 0, 0, 1, BAD_VALUE);
        CHECK.due("count(3)", y.count(3), 1);
    }

    private static void count() {
        CHECK.sentence("Returns the number; BAD_VALUE.");
        SplitTowers x = Check.withModulus(3, "1,2,2,0,2,1,1");
        Check.assign(x, "c=1/(x+1)");
        Check.text(x, "c=");
        CHECK.row("count(..)", x::count, 3, 6, 2, 4, 5, 5, 3, 2, BAD_VALUE);
        for (int register = 0; register < 6; register++) {
            x.setNumber(register, 0, 1);
            x.setNumber(register, 1, 0);
        }
        CHECK.due("count(5) if all are constants", x.count(5), 0);
        CHECK.due("count(-1)", x.count(-1), BAD_VALUE);
        CHECK.due("count(MAX)", x.count(Integer.MAX_VALUE), BAD_VALUE);
    }
}
