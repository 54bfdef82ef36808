/** The edges of the part "Texts" of the terms, and of promises 11 and 12: a sentence of the document each. */
public final class TextEdgesTest {
    private static final Check CHECK = new Check("TextEdgesTest");
    private static final String DIGITS = "0123456789";
    private static final String SIMPLES = "abcdefx" + DIGITS;
    private static final char[] WIDE = {256 + '0', 256 + 'a', 256 + '(', 256 + ',', 256 + '=', 512 + '1', 0x661, 0xff11,
        0xff41, 0x2212, 0xd800, 0xdfff, 0xffff, 0x8000 + '1', 0xff00 + '+'};

    public static void main(String[] args) {
        sixtyCharacters();
        fullTextStays();
        emptyAtFirst();
        anyCharacter();
        clearTextTellsTheLength();
        charactersOfAssignments();
        fiveOpenParentheses();
        assignmentsThatEndTooEarly();
        longestAssignments();
        leftToRight();
        zeroToThePowerZero();
        digitsModuloThePrime();
        powersOfOneDigit();
        charactersOfPolynomials();
        coefficientsToTwelve();
        zeroInFront();
        atMostSeven();
        polynomialsThatEndTooEarly();
        emptyTextEndsTooEarly();
        firstFaultIsTold();
        CHECK.done();
    }

    private static void sixtyCharacters() {
        CHECK.sentence("There is a text of at most 60 characters");
        SplitTowers x = new SplitTowers();
        for (int k = 1; k <= 60; k++) {
            CHECK.due("type of the character " + k, x.type('1'), k);
            CHECK.due("count(7)", x.count(7), k);
        }
        CHECK.due("type of the character 61", x.type('1'), SplitTowers.FULL);
        CHECK.due("type of the character 61", x.type((char) 0), SplitTowers.FULL);
        CHECK.due("count(7)", x.count(7), 60);
        CHECK.due("clearText()", x.clearText(), 60);
        CHECK.due("type of the first character", x.type('1'), 1);
    }

    private static void fullTextStays() {
        CHECK.sentence("FULL if it has 60 characters");
        String whole = "a=" + "1+".repeat(28) + "1";
        for (String text : new String[] {whole + "+", whole + ")", whole + "1", "b" + whole, "1," + "1".repeat(58)}) {
            Twins twins = new Twins(CHECK, x -> {
                Check.readModulus(x, "3,1");
                x.keep();
                x.setNumber(1, 0, 3);
                Check.text(x, text);
            });
            twins.changesNothing("type('1')", SplitTowers.FULL, x -> x.type('1'));
            twins.changesNothing("type((char) 65535)", SplitTowers.FULL, x -> x.type((char) 65535));
        }
        SplitTowers x = new SplitTowers();
        Check.text(x, whole);
        CHECK.due("type of the last one that there is room for", x.type('^'), 60);
        CHECK.due("type of one too many", x.type('2'), SplitTowers.FULL);
        CHECK.due("a text that ends too early", x.assign(), -160);
    }

    private static void emptyAtFirst() {
        CHECK.sentence("empty at first");
        SplitTowers x = new SplitTowers();
        CHECK.due("count(7)", x.count(7), 0);
        CHECK.due("assign()", x.assign(), -100);
        CHECK.due("readModulus()", x.readModulus(), -100);
        CHECK.due("clearText()", x.clearText(), 0);
        CHECK.due("type('a')", x.type('a'), 1);
    }

    private static void anyCharacter() {
        CHECK.sentence("character: any character");
        for (int from = 0; from < 65536; from += 771) {
            SplitTowers x = new SplitTowers();
            CHECK.due("type((char) " + from + ")", x.type((char) from), 1);
            CHECK.due("type((char) " + (from + 1) + ")", x.type((char) (from + 1)), 2);
        }
        Twins twins = new Twins(CHECK, x -> {
            Check.readModulus(x, "4,0,1");
            Check.assign(x, "b=x/(x-1)");
        });
        twins.changesNothing("type and clearText()", 10, x -> {
            x.type('!');
            return x.clearText();
        }, SplitTowers::clearText);
    }

    private static void clearTextTellsTheLength() {
        CHECK.sentence("Empties the text. Returns the length that it had");
        SplitTowers x = new SplitTowers();
        for (int length : new int[] {0, 1, 2, 59, 60}) {
            Check.text(x, "1".repeat(length));
            CHECK.due("clearText()", x.clearText(), length);
            CHECK.due("clearText() again", x.clearText(), 0);
            CHECK.due("count(7)", x.count(7), 0);
            CHECK.due("assign()", x.assign(), -100);
            CHECK.due("count(6)", x.count(6), 0);
        }
    }

    /** What may stand behind a beginning: without a fault then, and with a text that ends too early then. */
    private static void behind(boolean assigned, String beginning, String whole, String unfinished) {
        for (int code = 0; code < 256 + WIDE.length; code++) {
            char character = code < 256 ? (char) code : WIDE[code - 256];
            SplitTowers x = new SplitTowers();
            Check.text(x, beginning + character);
            int answer = assigned ? x.assign() : x.readModulus();
            int length = beginning.length();
            int due = unfinished.indexOf(character) >= 0 ? -101 - length : -100 - length;
            String call = "(char) " + (int) character + " behind " + beginning;
            if (whole.indexOf(character) >= 0) {
                CHECK.that(call + " is no fault", answer > -100);
            } else {
                CHECK.due(call, answer, due);
            }
        }
    }

    private static void charactersOfAssignments() {
        CHECK.sentence("simple = a letter a to f (the number in the register) | \"x\" | a digit (the constant, modulo p)");
        behind(true, "", "", "abcdef");
        behind(true, "c", "", "=");
        behind(true, "a=", SIMPLES, "(");
        behind(true, "a=(", "", SIMPLES + "(");
        behind(true, "a=1+", SIMPLES, "(");
        behind(true, "a=b-", SIMPLES, "(");
        behind(true, "a=x*", SIMPLES, "(");
        behind(true, "a=(1)/", SIMPLES, "(");
        behind(true, "f=(x+", "", SIMPLES + "(");
        CHECK.sentence("factor = simple [ \"^\" digit ]");
        behind(true, "a=1", "", "+-*/^");
        behind(true, "a=x", "", "+-*/^");
        behind(true, "a=f", "", "+-*/^");
        behind(true, "a=(1", ")", "+-*/^");
        behind(true, "a=((b", "", "+-*/^)");
        behind(true, "a=(1)", "", "+-*/^");
        behind(true, "a=x^", DIGITS, "");
        behind(true, "a=(x)^", DIGITS, "");
        behind(true, "a=((x)^", "", DIGITS);
        behind(true, "a=x^2", "", "+-*/");
        behind(true, "a=(1)^0", "", "+-*/");
        behind(true, "a=(x^2", ")", "+-*/");
        behind(true, "a=((1)^9", ")", "+-*/");
    }

    private static void fiveOpenParentheses() {
        CHECK.sentence("At most 5 parentheses are open at a time");
        behind(true, "a=((((", "", SIMPLES + "(");
        behind(true, "a=(((((", "", SIMPLES);
        behind(true, "a=(((((1+", "", SIMPLES);
        behind(true, "a=(((((1", "", "+-*/^)");
        behind(true, "a=(((((1)", "", "+-*/^)");
        behind(true, "a=(((((1)+", "", SIMPLES + "(");
        behind(true, "a=(((((1)+(", "", SIMPLES);
        behind(true, "a=(((((1))))", ")", "+-*/^");
        behind(true, "a=(((((1)))))", "", "+-*/^");
        behind(true, "a=(((((1)))))*(((((", "", SIMPLES);
        behind(true, "a=(((((1)))))*((((", "", SIMPLES + "(");
        CHECK.sentence("a sixth open parenthesis");
        String[] texts = {"a=((((((", "a=((((((1))))))", "a=(((((()", "a=1+((((((1", "a=(((((1)+((2", "a=(1)+((((((1"};
        int[] faults = {7, 7, 7, 9, 11, 11};
        for (int k = 0; k < texts.length; k++) {
            CHECK.due("assign of " + texts[k], Check.assign(new SplitTowers(), texts[k]), -100 - faults[k]);
        }
        SplitTowers x = Check.withModulus(13, "11,1");
        CHECK.due("five open", Check.assign(x, "a=1+(2*(3+(4*(5+(6-1)*2)+3)-1)-2)"), 1);
        // From the inner ones: 15, 4*15+3 = 63, 3+63-1 = 65, 2*65-2 = 128 and 129.
        CHECK.number(x, 0, 129 % 13);
        CHECK.due("five open twice", Check.assign(x, "a=(((((1)))))+(((((2)))))"), 1);
        CHECK.number(x, 0, 3);
        CHECK.due("more than five, of which five are open", Check.assign(x, "a=((((((1))+1)+(2))))"), -107);
        CHECK.due("more than five, one behind the other", Check.assign(x, "a=(1)+(2)+(3)+(4)+(5)+(6)+(7)"), 1);
        CHECK.number(x, 0, 2);
    }

    private static void assignmentsThatEndTooEarly() {
        CHECK.sentence("or the length of the text if it ends too early");
        String text = "a=(b+1)^2/x-c*(3)";
        for (int length = 0; length <= text.length(); length++) {
            boolean whole = length == 7 || length == 9 || length == 11 || length == 13 || length == 17;
            int answer = Check.assign(new SplitTowers(), text.substring(0, length));
            CHECK.due("assign of " + text.substring(0, length), answer, whole ? 1 : -100 - length);
        }
    }

    private static void longestAssignments() {
        CHECK.sentence("There is a text of at most 60 characters");
        String sum = "1+".repeat(28);
        SplitTowers x = Check.withModulus(13, "11,1");
        CHECK.due("59 characters", Check.assign(x, "a=" + sum + "5"), 1);
        CHECK.number(x, 0, 33 % 13);
        CHECK.due("60 that end too early", Check.assign(x, "a=" + sum + "1+"), -160);
        CHECK.due("60 with a fault at the last one", Check.assign(x, "a=" + sum + "12"), -159);
        CHECK.due("60 with a parenthesis that stays open", Check.assign(x, "a=(" + sum + "1"), -160);
        CHECK.due("60 with a parenthesis that is not open", Check.assign(x, "a=" + sum + "1)"), -159);
    }

    private static void value(SplitTowers x, String text, int want) {
        CHECK.due(text, Check.assign(x, text), 1);
        CHECK.due("number(0, 0) by " + text, x.number(0, 0), want);
    }

    private static void leftToRight() {
        CHECK.sentence("It is reckoned as this tells, else from the left to the right");
        SplitTowers x = Check.withModulus(13, "11,1");
        value(x, "a=9-5-3", 1);
        value(x, "a=9-(5-3)", 7);
        value(x, "a=9-5+3", 7);
        value(x, "a=8/4/2", 1);
        value(x, "a=8/(4/2)", 4);
        value(x, "a=8/4*2", 4);
        value(x, "a=8*4/2", 3);
        value(x, "a=2+3*4", 1);
        value(x, "a=(2+3)*4", 7);
        value(x, "a=2*3^2", 5);
        value(x, "a=(2*3)^2", 10);
        value(x, "a=8/2^2", 2);
        value(x, "a=9-2^3", 1);
        value(x, "a=1-2*3-4", 4);
        value(x, "a=(1-2)*(3-4)", 1);
        value(x, "a=x", 2);
        value(x, "a=x*x-x/x", 3);
    }

    private static void zeroToThePowerZero() {
        CHECK.sentence("0 to the power 0 is 1");
        SplitTowers x = Check.withModulus(5, "4,0,1");
        for (String text : new String[] {"a=0^0", "a=b^0", "a=(x-x)^0", "a=5^0", "a=(x^2-1)^0", "a=x^0", "a=(x-1)^0"}) {
            CHECK.due(text, Check.assign(x, text), 1);
            CHECK.number(x, 0, 1, 0);
        }
        CHECK.due("a=0^1", Check.assign(x, "a=0^1"), 1);
        CHECK.number(x, 0, 0, 0);
        CHECK.due("x to the power 0 where it is nothing", Check.assign(new SplitTowers(), "a=x^0"), 1);
        SplitTowers y = new SplitTowers();
        value(y, "a=x^0", 1);
        value(y, "a=x^1", 0);
    }

    private static void digitsModuloThePrime() {
        CHECK.sentence("a digit (the constant, modulo p)");
        for (int prime : new int[] {2, 3, 5, 7, 11, 13}) {
            SplitTowers x = new SplitTowers();
            x.setPrime(prime);
            for (int digit = 0; digit <= 9; digit++) {
                value(x, "a=" + digit, digit % prime);
            }
        }
    }

    private static void powersOfOneDigit() {
        CHECK.sentence("factor = simple [ \"^\" digit ]");
        SplitTowers x = Check.withModulus(13, "11,1");
        int[] powers = {1, 2, 4, 8, 3, 6, 12, 11, 9, 5};
        for (int digit = 0; digit <= 9; digit++) {
            value(x, "a=2^" + digit, powers[digit]);
            value(x, "a=x^" + digit, powers[digit]);
            value(x, "a=(1+1)^" + digit, powers[digit]);
        }
    }

    private static void charactersOfPolynomials() {
        CHECK.sentence("A text of a polynomial is one or more digits or pairs of digits with \",\" between two");
        behind(false, "", DIGITS, "");
        behind(false, "0", "", ",");
        behind(false, "1", "012", ",");
        for (int digit = 2; digit <= 9; digit++) {
            behind(false, "" + digit, "", ",");
        }
        behind(false, "10", "", ",");
        behind(false, "11", "", ",");
        behind(false, "12", "", ",");
        behind(false, "0,", DIGITS, "");
        behind(false, "12,", DIGITS, "");
        behind(false, "3,0", "", ",");
        behind(false, "3,1", "012", ",");
        behind(false, "3,10", "", ",");
        behind(false, "3,2", "", ",");
        CHECK.sentence("a \",\" behind the seventh coefficient");
        behind(false, "1,1,1,1,1,1", "012", ",");
        behind(false, "1,1,1,1,1,1,", DIGITS, "");
        behind(false, "1,1,1,1,1,1,1", "012", "");
        behind(false, "1,1,1,1,1,1,0", "", "");
        behind(false, "1,1,1,1,1,1,12", "", "");
    }

    private static void coefficientsToTwelve() {
        CHECK.sentence("each from 0 to 12");
        for (int value = 0; value <= 99; value++) {
            SplitTowers x = new SplitTowers();
            x.setPrime(13);
            CHECK.due("readModulus of " + value + ",1", Check.readModulus(x, value + ",1"),
                value == 0 ? SplitTowers.NONE : value <= 12 ? 1 : -101);
            CHECK.due("modulus(0)", x.modulus(0), value <= 12 ? value : 0);
            CHECK.due("readModulus of 1," + value + ",1", Check.readModulus(x, "1," + value + ",0,1"),
                value <= 12 ? 3 : -103);
        }
        for (int value = 100; value <= 129; value++) {
            CHECK.due("readModulus of " + value, Check.readModulus(new SplitTowers(), value + ",1"), -102);
        }
        CHECK.due("a long row of digits", Check.readModulus(new SplitTowers(), "1".repeat(60)), -102);
        CHECK.due("a long row of nines", Check.readModulus(new SplitTowers(), "9".repeat(60)), -101);
    }

    private static void zeroInFront() {
        CHECK.sentence("without a zero in front unless it is the single digit 0");
        String[] texts = {"00", "01", "01,1", "012", "000", "0,00", "0,01", "1,0,05", "12,012"};
        int[] faults = {1, 1, 1, 1, 1, 3, 3, 5, 4};
        for (int k = 0; k < texts.length; k++) {
            CHECK.due("readModulus of " + texts[k], Check.readModulus(new SplitTowers(), texts[k]), -100 - faults[k]);
        }
        CHECK.due("the single digit 0", Check.readModulus(new SplitTowers(), "0"), SplitTowers.BAD_VALUE);
        CHECK.due("a 0 behind a 1", Check.withModulus(11, "10,1").modulus(0), 10);
        CHECK.due("many single digits 0", Check.withModulus(5, "4,0,0,0,1").count(1), 4);
    }

    private static void atMostSeven() {
        CHECK.sentence("at most seven");
        CHECK.due("six", Check.readModulus(new SplitTowers(), "0,4,0,0,0,1"), 5);
        CHECK.due("seven", Check.readModulus(new SplitTowers(), "4,0,0,0,0,0,1"), 6);
        CHECK.due("seven and a comma", Check.readModulus(new SplitTowers(), "4,0,0,0,0,0,1,"), -113);
        CHECK.due("eight", Check.readModulus(new SplitTowers(), "4,0,0,0,0,0,0,1"), -113);
        CHECK.due("eight that are not monic", Check.readModulus(new SplitTowers(), "0,1,0,0,0,0,0,0"), -113);
        CHECK.due("seven pairs", Check.readModulus(new SplitTowers(), "12,12,12,12,12,12,12"), SplitTowers.BAD_VALUE);
        CHECK.due("seven pairs and a comma", Check.readModulus(new SplitTowers(), "12,12,12,12,12,12,12,"), -120);
        CHECK.due("seven pairs and a digit", Check.readModulus(new SplitTowers(), "12,12,12,12,12,12,121"), -120);
        CHECK.due("six pairs and a comma", Check.readModulus(new SplitTowers(), "12,12,12,12,12,12,"), -118);
    }

    private static void polynomialsThatEndTooEarly() {
        CHECK.sentence("or the length of the text if it ends too early");
        String text = "3,0,12,1,";
        int[] due = {-100, -2, -102, -2, -104, 2, -2, -107, -2, -109};
        for (int length = 0; length <= text.length(); length++) {
            int answer = Check.readModulus(new SplitTowers(), text.substring(0, length));
            CHECK.due("readModulus of " + text.substring(0, length), answer, due[length]);
        }
        CHECK.due("the same over 13", Check.withModulus(13, "3,0,12,1").count(1), 3);
    }

    private static void emptyTextEndsTooEarly() {
        CHECK.sentence("the empty text does");
        Twins twins = new Twins(CHECK, x -> {
            Check.readModulus(x, "0,4,0,1");
            x.keep();
            Check.assign(x, "a=x/(x-1)");
            x.clearText();
        });
        twins.changesNothing("assign() of no text", -100, SplitTowers::assign);
        twins.changesNothing("readModulus() of no text", -100, SplitTowers::readModulus);
    }

    private static void firstFaultIsTold() {
        CHECK.sentence("is the index, from 0, of the first character that is not allowed at its place");
        String[] texts = {"aa", "a==", "a=)", "a=1)+(", "a=!1!", "g!", "a=1+*2*", "a=x^x^x", "1,,", "x=1", "a=1=1", "a=12+", "a=1.5"};
        int[] assigned = {1, 2, 2, 3, 2, 0, 4, 4, 0, 0, 3, 3, 3};
        for (int k = 0; k < texts.length; k++) {
            CHECK.due("assign of " + texts[k], Check.assign(new SplitTowers(), texts[k]), -100 - assigned[k]);
        }
        String[] polynomials = {"a=1", "1,,", "1,x,y", "13,13", "1.1", "1 1", " 1", "1,1 ", "-1", "+1", "1,-1", "1;1", "20,01"};
        int[] read = {0, 2, 2, 1, 1, 1, 0, 3, 0, 0, 2, 1, 1};
        for (int k = 0; k < polynomials.length; k++) {
            CHECK.due("readModulus of " + polynomials[k], Check.readModulus(new SplitTowers(), polynomials[k]), -100 - read[k]);
        }
    }
}
