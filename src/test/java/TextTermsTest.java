import java.util.ArrayList;
import java.util.HashSet;
import java.util.List;
import java.util.Set;

/** The part "Terms" of the document from "Texts" on: each sentence that an answer can show, in their order. */
public final class TextTermsTest {
    private static final Check CHECK = new Check("TextTermsTest");
    private static final int FAULT = -100;
    // Some of the characters of an expression, so that all texts of them can be tried.
    private static final String SIGNS = "b7(+/)^";
    private static final int LONGEST = 5;

    public static void main(String[] args) {
        texts();
        expressions();
        fiveParentheses();
        reckoned();
        assignments();
        polynomials();
        faults();
        histories();
        recorded();
        snapshots();
        states();
        errors();
        orderOfChecks();
        none();
        nothingChanged();
        CHECK.done();
    }

    // ---- texts

    private static void texts() {
        CHECK.sentence("There is a text of at most 60 characters, empty at first.");
        SplitTowers x = new SplitTowers();
        CHECK.due("count(7) at first", x.count(7), 0);
        for (int length = 1; length <= 60; length++) {
            CHECK.due("type", x.type((char) (200 + length)), length);
        }
        CHECK.due("the 61st character", x.type('1'), SplitTowers.FULL);
        CHECK.due("count(7)", x.count(7), 60);
    }

    /** All texts of the signs above that the rules of the document make, of each length, a rule at a time. */
    private static List<Set<String>> made() {
        List<Set<String>> simples = new ArrayList<>();
        List<Set<String>> factors = new ArrayList<>();
        List<Set<String>> products = new ArrayList<>();
        List<Set<String>> expressions = new ArrayList<>();
        for (int length = 0; length <= LONGEST; length++) {
            Set<String> simple = new HashSet<>(length == 1 ? Set.of("b", "7") : Set.of());
            if (length > 2) {
                expressions.get(length - 2).forEach(inner -> simple.add("(" + inner + ")"));
            }
            simples.add(simple);
            Set<String> factor = new HashSet<>(simple);
            if (length > 2) {
                simples.get(length - 2).forEach(base -> factor.add(base + "^7"));
            }
            factors.add(factor);
            products.add(chains(products, factors, '/', length));
            expressions.add(chains(expressions, products, '+', length));
        }
        return expressions;
    }

    /** The links of a length, and the chains that are shorter with a sign and one more link. */
    private static Set<String> chains(List<Set<String>> chains, List<Set<String>> links, char sign, int length) {
        Set<String> found = new HashSet<>(links.get(length));
        for (int first = 1; first < length - 1; first++) {
            for (String chain : chains.get(first)) {
                links.get(length - 1 - first).forEach(link -> found.add(chain + sign + link));
            }
        }
        return found;
    }

    private static void expressions() {
        CHECK.sentence("An expression is: expression = product { (\"+\" | \"-\") product }; "
            + "product = factor { (\"*\" | \"/\") factor }; factor = simple [ \"^\" digit ]; "
            + "simple = a letter a to f (the number in the register) | \"x\" | a digit (the constant, modulo p) | "
            + "\"(\" expression \")\".");
        List<Set<String>> made = made();
        int codes = 1;
        for (int length = 1; length <= LONGEST; length++) {
            codes *= SIGNS.length();
            for (int code = 0; code < codes; code++) {
                StringBuilder text = new StringBuilder();
                for (int left = code; text.length() < length; left /= SIGNS.length()) {
                    text.append(SIGNS.charAt(left % SIGNS.length()));
                }
                int answer = Check.assign(new SplitTowers(), "a=" + text);
                CHECK.that("a=" + text + ": " + answer, answer == 1 == made.get(length).contains(text.toString()));
            }
        }
        SplitTowers x = Check.withModulus(7, "1,1,0,1");
        Check.assign(x, "f=x+8");
        Check.assign(x, "a=f-2*x^2");
        CHECK.number(x, 5, 1, 1, 0);
        CHECK.number(x, 0, 1, 1, 5);
    }

    private static void fiveParentheses() {
        CHECK.sentence("At most 5 parentheses are open at a time.");
        for (int open = 0; open <= 7; open++) {
            String text = "a=3+" + "(".repeat(open) + "1" + ")".repeat(open) + "*(2)";
            CHECK.due(text, Check.assign(new SplitTowers(), text), open <= 5 ? 1 : FAULT - 9);
        }
        // From the inner ones: 5, 4-10 = -6, 3+12 = 15, 2-30 = -28, 1+56 = 57 and 9-57 = -48, which is 7.
        value(Check.withModulus(11, "3,1"), "a=9-(1-2*(2-2*(3-2*(4-2*(5)))))", 7);
    }

    private static void value(SplitTowers x, String text, int... want) {
        CHECK.that(text + " is reckoned", Check.assign(x, text) > 0);
        CHECK.number(x, 0, want);
    }

    private static void reckoned() {
        CHECK.sentence("It is reckoned as this tells, else from the left to the right; "
            + "quotients part the branches as they are met; 0 to the power 0 is 1.");
        SplitTowers x = Check.withModulus(11, "3,1");
        value(x, "a=2-3-4", 6);
        value(x, "a=2-(3-4)", 3);
        value(x, "a=6/3/2", 1);
        value(x, "a=6/(3/2)", 4);
        value(x, "a=1+2*3^2", 8);
        value(x, "a=((1+2)*3)^2", 4);
        value(x, "a=0^0+(x-8)^0+b^0", 3);
        String[] texts = {"a=0*(1/x)", "a=(1/(x-1))^0", "a=1/x/(x-1)", "a=1/(1/(x^2-x))", "a=x-x/(x*(x+1))/x", "a=0/0"};
        int[] branches = {2, 2, 3, 2, 3, 1};
        for (int k = 0; k < texts.length; k++) {
            CHECK.due(texts[k], Check.assign(Check.withModulus(5, "0,4,0,1"), texts[k]), branches[k]);
        }
        CHECK.due("a fault behind a quotient", Check.assign(Check.withModulus(5, "0,4,0,1"), "a=1/x)"), FAULT - 5);
    }

    private static void assignments() {
        CHECK.sentence("A text of an assignment is a letter a to f, \"=\", and an expression.");
        for (char letter = ' '; letter < 127; letter++) {
            boolean register = letter >= 'a' && letter <= 'f';
            SplitTowers x = new SplitTowers();
            CHECK.due(letter + "=3", Check.assign(x, letter + "=3"), register ? 1 : FAULT);
            for (int k = 0; k < 6; k++) {
                CHECK.due("number(" + k + ", 0)", x.number(k, 0), letter == 'a' + k ? 3 : 0);
            }
            CHECK.due("c" + letter + "3", Check.assign(x, "c" + letter + "3"), letter == '=' ? 1 : FAULT - 1);
        }
        CHECK.due("c=", Check.assign(new SplitTowers(), "c="), FAULT - 2);
        CHECK.due("c", Check.assign(new SplitTowers(), "c"), FAULT - 1);
    }

    /** Whether the text is a beginning of one that tells a polynomial; its last coefficient may be missing. */
    private static boolean isBegun(String text, boolean whole) {
        String[] told = text.split(",", -1);
        for (int k = 0; k < told.length; k++) {
            boolean missing = !whole && k == told.length - 1 && told[k].isEmpty();
            if (!missing && !told[k].matches("[0-9]|1[0-2]")) {
                return false;
            }
        }
        return told.length <= 7;
    }

    private static int polynomialFault(String text) {
        if (isBegun(text, true)) {
            return -1;
        }
        for (int length = 1; length <= text.length(); length++) {
            if (!isBegun(text.substring(0, length), false)) {
                return length - 1;
            }
        }
        return text.length();
    }

    private static void polynomial(String text) {
        int fault = polynomialFault(text);
        int answer = Check.readModulus(new SplitTowers(), text);
        if (fault >= 0) {
            CHECK.due("readModulus of " + text, answer, FAULT - fault);
        } else {
            CHECK.that("readModulus of " + text + " is no fault: " + answer, answer > FAULT);
        }
    }

    private static void polynomials() {
        CHECK.sentence("A text of a polynomial is one or more digits or pairs of digits with \",\" between two: "
            + "its coefficients from the number 0 on, each from 0 to 12, "
            + "without a zero in front unless it is the single digit 0; at most seven.");
        CHECK.modulus(Check.withModulus(13, "12,0,10,3,1"), 12, 0, 10, 3, 1);
        CHECK.modulus(Check.withModulus(13, "11,10,9,8,7,6,1"), 11, 10, 9, 8, 7, 6, 1);
        String signs = "0123,";
        for (int code = 0; code < 5 * 5 * 5 * 5 * 5; code++) {
            StringBuilder text = new StringBuilder();
            for (int left = code; text.length() < 5; left /= 5) {
                text.append(signs.charAt(left % 5));
                polynomial(text.toString());
            }
            polynomial("1,12,0,10,0" + text);
        }
    }

    private static void faults() {
        CHECK.sentence("The fault of the text, read as an assignment or as a polynomial, is the index, from 0, "
            + "of the first character that is not allowed at its place (a digit by which a coefficient would be more than "
            + "12, a \",\" behind the seventh coefficient, and a sixth open parenthesis, too), "
            + "or the length of the text if it ends too early (the empty text does).");
        String[] assigned = {"", "d", "d=", "d=(", "d=(b", "d=b^", "d=b^x", "d=b+*c", "d=bc", "d=b)", "d=((((((b", "D=b", "d=()",
            "d=3 ", "d=33", "d=b^3^3", "d=(b))", "d=b(c)", "0,1"};
        int[] faults = {0, 1, 2, 3, 4, 4, 4, 4, 3, 3, 7, 0, 3, 3, 3, 5, 5, 3, 0};
        for (int k = 0; k < assigned.length; k++) {
            CHECK.due("assign of " + assigned[k], Check.assign(new SplitTowers(), assigned[k]), FAULT - faults[k]);
        }
        String[] read = {"", ",", "1,", "13", "120", "01", "1,,1", "1;1", "1,1,1,1,1,1,1,", "1,1,1,1,1,1,1,1", "a=b", "1,-1"};
        int[] readFaults = {0, 0, 2, 1, 2, 1, 2, 1, 13, 13, 0, 2};
        for (int k = 0; k < read.length; k++) {
            CHECK.due("readModulus of " + read[k], Check.readModulus(new SplitTowers(), read[k]), FAULT - readFaults[k]);
        }
    }

    // ---- history

    private static void histories() {
        CHECK.sentence("A history of at most 4 states is kept; when one more is recorded, the oldest one is dropped; "
            + "undo() removes and restores the latest one.");
        SplitTowers x = Check.withModulus(13, "0,1,1");
        for (int value = 1; value <= 7; value++) {
            CHECK.due("setNumber", x.setNumber(3, 1, value), value - 1);
        }
        CHECK.due("count(6)", x.count(6), 4);
        for (int left = 3; left >= 0; left--) {
            CHECK.due("undo()", x.undo(), left);
            CHECK.number(x, 3, 0, left + 3);
        }
        CHECK.due("undo() of an empty one", x.undo(), SplitTowers.NONE);
        CHECK.number(x, 3, 0, 3);
    }

    private static void recorded() {
        CHECK.sentence("Each call of a method that is described as an act, and returns no error and not NONE, "
            + "records the state that was before it.");
        SplitTowers x = new SplitTowers();
        recorded(x, "setPrime(7)", x.setPrime(7), 1);
        recorded(x, "setPrime(7) again", x.setPrime(7), 1);
        recorded(x, "setPrime(8)", x.setPrime(8), 1);
        Check.text(x, "6,0,0,0,0,0,1");
        recorded(x, "readModulus()", x.readModulus(), 2);
        recorded(x, "readModulus() again", x.readModulus(), 2);
        recorded(x, "setNumber(0, 1, 1)", x.setNumber(0, 1, 1), 3);
        recorded(x, "setNumber(0, 6, 1)", x.setNumber(0, 6, 1), 3);
        recorded(x, "assign() of another text", x.assign(), 3);
        Check.text(x, "b=b");
        recorded(x, "assign() of what is there", x.assign(), 4);
        for (int left = 3; left >= 1; left--) {
            CHECK.due("undo()", x.undo(), left);
        }
        Check.readModulus(x, "0,6,0,1");
        recorded(x, "part(0) of a number that is 0", x.part(0), 2);
        Check.assign(x, "a=x");
        recorded(x, "part(0)", x.part(0), 4);
        CHECK.due("undo()", x.undo(), 3);
        CHECK.due("the one branch", x.count(2), 1);
        CHECK.number(x, 0, 0, 1, 0);
        CHECK.due("undo()", x.undo(), 2);
        CHECK.number(x, 0, 0, 0, 0);
        CHECK.due("undo()", x.undo(), 1);
        CHECK.modulus(x, 0, 1);
        CHECK.due("undo()", x.undo(), 0);
        CHECK.due("count(0)", x.count(0), 5);
    }

    private static void recorded(SplitTowers x, String call, int answer, int states) {
        CHECK.due("states behind " + call + ", which answered " + answer, x.count(6), states);
    }

    private static void snapshots() {
        CHECK.sentence("There is one snapshot, empty at first.");
        SplitTowers x = new SplitTowers();
        CHECK.due("restore() at first", x.restore(), SplitTowers.NONE);
        CHECK.due("keep()", x.keep(), 1);
        x.setPrime(2);
        CHECK.due("keep() in its place", x.keep(), 1);
        x.setPrime(3);
        CHECK.due("restore()", x.restore(), 1);
        CHECK.due("count(0)", x.count(0), 2);
        CHECK.due("restore()", x.restore(), 1);
        CHECK.due("count(0)", x.count(0), 2);
    }

    private static void states() {
        CHECK.sentence("A state is everything but the text, the history and the snapshot.");
        SplitTowers x = Check.withModulus(3, "0,2,0,1");
        Check.assign(x, "e=2*x/(x-1)");
        x.keep();
        Check.text(x, "c=x");
        x.setPrime(11);
        CHECK.due("undo()", x.undo(), 3);
        stateComesBack(x, 3);
        x.setPrime(11);
        CHECK.due("restore()", x.restore(), 2);
        stateComesBack(x, 4);
        CHECK.due("undo() of it", x.undo(), 4 - 1);
        CHECK.due("count(0)", x.count(0), 11);
        CHECK.due("restore() of the same one", x.restore(), 2);
        stateComesBack(x, 4);
    }

    private static void stateComesBack(SplitTowers x, int states) {
        CHECK.row("count(..)", x::count, 3, 3, 2, 3, 2, 5, states, 3);
        CHECK.modulus(x, 0, 2, 0, 1);
        CHECK.branch(x, 0, 2, 1);
        CHECK.branch(x, 1, 0, 1, 1);
        // It is nothing at 1, and 2x over x - 1, which is 1 at -1 and 0 at 0, that is x^2 - x over 2.
        CHECK.number(x, 4, 0, 1, 2);
    }

    // ---- errors

    private static void errors() {
        CHECK.sentence("Errors are reported by the constants below.");
        SplitTowers x = new SplitTowers();
        CHECK.due("trace(6)", x.trace(6), -1);
        CHECK.due("branch(1, 0)", x.branch(1, 0), -1);
        CHECK.due("factors(0)", x.factors(0), -2);
        Check.text(x, "0".repeat(60));
        CHECK.due("type into a full text", x.type('0'), -3);
        CHECK.due("readModulus of a square", Check.readModulus(x, "0,0,1"), -4);
        CHECK.due("undo()", x.undo(), -5);
    }

    private static void orderOfChecks() {
        CHECK.sentence("Where several errors can apply, the order of the @return line is the order of the checks.");
        SplitTowers x = new SplitTowers();
        CHECK.due("setNumber(6, 1, 5)", x.setNumber(6, 1, 5), SplitTowers.UNKNOWN);
        CHECK.due("put(6, 1, 6)", x.put(6, 1, 6), SplitTowers.UNKNOWN);
        CHECK.due("join(1, 1)", x.join(1, 1), SplitTowers.UNKNOWN);
        CHECK.due("seen(6, 0, 1)", x.seen(6, 0, 1), SplitTowers.UNKNOWN);
        CHECK.due("seen(0, 1, 1)", x.seen(0, 1, 1), SplitTowers.UNKNOWN);
        CHECK.due("power(6, -1, 1)", x.power(6, -1, 1), SplitTowers.UNKNOWN);
        // 5 is the prime, 2 is no greatest coefficient of a monic one, and x^2 is a square.
        CHECK.due("a fault and a coefficient of p", Check.readModulus(x, "5,0,1,"), FAULT - 6);
        CHECK.due("a coefficient of p and a square", Check.readModulus(x, "0,0,5,1"), SplitTowers.BAD_VALUE);
        CHECK.due("a square that is not monic", Check.readModulus(x, "0,0,2"), SplitTowers.BAD_VALUE);
        CHECK.due("a square", Check.readModulus(x, "0,0,1"), SplitTowers.NOT_POSSIBLE);
    }

    private static void none() {
        CHECK.sentence("NONE is no error; it is returned only if no error applies.");
        SplitTowers x = new SplitTowers();
        CHECK.due("put(0, 0, 0), which would change nothing", x.put(0, 0, 0), SplitTowers.BAD_VALUE);
        CHECK.due("put(0, 0, 1), which would change nothing", x.put(0, 0, 1), SplitTowers.NONE);
        CHECK.due("setNumber(0, 1, 0), a coefficient that is 0", x.setNumber(0, 1, 0), SplitTowers.BAD_VALUE);
        CHECK.due("setNumber(0, 0, 0)", x.setNumber(0, 0, 0), SplitTowers.NONE);
        CHECK.due("part(6)", x.part(6), SplitTowers.UNKNOWN);
        CHECK.due("part(0)", x.part(0), SplitTowers.NONE);
        CHECK.due("order(6)", x.order(6), SplitTowers.UNKNOWN);
        CHECK.due("order(0)", x.order(0), SplitTowers.NONE);
        SplitTowers y = Check.withModulus(5, "4,0,1");
        Check.assign(y, "a=x-1");
        CHECK.due("joinAlike(0) of one branch that is mixed", y.joinAlike(0), SplitTowers.NOT_POSSIBLE);
        CHECK.due("joinAlike(1) of one branch", y.joinAlike(1), SplitTowers.NONE);
    }

    private static void nothingChanged() {
        CHECK.sentence("A call that returns an error or NONE changes nothing.");
        Twins twins = new Twins(CHECK, x -> {
            Check.readModulus(x, "0,4,0,1");
            Check.assign(x, "a=x/(x+1)");
            x.keep();
            x.join(0, 1);
            Check.text(x, "b=1/x+");
        });
        twins.changesNothing("assign() of a text that ends too early", FAULT - 6, SplitTowers::assign);
        twins.changesNothing("readModulus() of the same", FAULT, SplitTowers::readModulus);
        twins.changesNothing("setPrime(5)", SplitTowers.NONE, x -> x.setPrime(5));
        twins.changesNothing("setPrime(9)", SplitTowers.BAD_VALUE, x -> x.setPrime(9));
        twins.changesNothing("put(0, 0, 1)", SplitTowers.NONE, x -> x.put(0, 0, 1));
        twins.changesNothing("joinAlike(0)", SplitTowers.NOT_POSSIBLE, x -> x.joinAlike(0));
        twins.changesNothing("join(0, 1)", SplitTowers.UNKNOWN, x -> x.join(0, 1));
        twins.changesNothing("partByDegrees()", SplitTowers.NONE, SplitTowers::partByDegrees);
        twins.changesNothing("part(3)", SplitTowers.NONE, x -> x.part(3));
    }
}
