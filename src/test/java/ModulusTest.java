/** Promises 1 to 3: a new object, setPrime, readModulus. */
public final class ModulusTest {
    private static final Check CHECK = new Check("ModulusTest");

    public static void main(String[] args) {
        newObject();
        setPrime();
        setPrimeStartsAnew();
        readModulus();
        readModulusFaults();
        readModulusErrors();
        readModulusKeepsRests();
        CHECK.done();
    }

    private static void newObject() {
        SplitTowers x = new SplitTowers();
        CHECK.row("count(..)", x::count, 5, 1, 1, 1, 1, 6, 0, 0);
        CHECK.modulus(x, 0, 1);
        CHECK.branch(x, 0, 0, 1);
        for (int k = 0; k < 6; k++) {
            CHECK.number(x, k, 0);
        }
        CHECK.due("undo()", x.undo(), SplitTowers.NONE);
        CHECK.due("restore()", x.restore(), SplitTowers.NONE);
    }

    private static void setPrime() {
        SplitTowers x = new SplitTowers();
        int previous = 5;
        for (int prime : new int[] {2, 3, 7, 11, 13, 5}) {
            CHECK.due("setPrime(" + prime + ")", x.setPrime(prime), previous);
            CHECK.due("count(0)", x.count(0), prime);
            CHECK.due("setPrime again", x.setPrime(prime), SplitTowers.NONE);
            previous = prime;
        }
        for (int no : new int[] {0, 1, 4, 6, 8, 9, 10, 12, 14, 17, 25, -2, -5, Integer.MAX_VALUE, Integer.MIN_VALUE}) {
            CHECK.due("setPrime(" + no + ")", x.setPrime(no), SplitTowers.BAD_VALUE);
        }
        CHECK.due("count(0)", x.count(0), 5);
        CHECK.due("count(6)", x.count(6), 4);
    }

    private static void setPrimeStartsAnew() {
        SplitTowers x = Check.withModulus(7, "6,0,1");
        Check.assign(x, "a=1/(x-1)");
        CHECK.due("setPrime(7)", x.setPrime(7), SplitTowers.NONE);
        CHECK.due("branches that stay", x.count(2), 2);
        CHECK.due("setPrime(3)", x.setPrime(3), 7);
        CHECK.row("count(..)", x::count, 3, 1, 1, 1, 1, 6, 4, 9);
        CHECK.modulus(x, 0, 1);
        CHECK.branch(x, 0, 0, 1);
        CHECK.due("undo()", x.undo(), 3);
        CHECK.row("count(..)", x::count, 7, 2, 2, 2, 1, 5, 3, 9);
        CHECK.modulus(x, 6, 0, 1);
    }

    private static void readModulus() {
        SplitTowers x = new SplitTowers();
        CHECK.due("4,0,1", Check.readModulus(x, "4,0,1"), 2);
        CHECK.modulus(x, 4, 0, 1);
        CHECK.branch(x, 0, 4, 0, 1);
        CHECK.due("the text stays", x.count(7), 5);
        CHECK.due("count(6)", x.count(6), 1);
        x.setNumber(0, 0, 1);
        x.setNumber(0, 1, 1);
        x.part(0);
        CHECK.due("the same one", x.readModulus(), SplitTowers.NONE);
        CHECK.due("its branches stay", x.count(2), 2);
        CHECK.due("1,0,0,0,0,0,1", Check.readModulus(x, "1,0,0,0,0,0,1"), 6);
        CHECK.due("one branch", x.count(2), 1);
        CHECK.due("3,1", Check.readModulus(x, "3,1"), 1);
        CHECK.due("undo()", x.undo(), 3);
        CHECK.modulus(x, 1, 0, 0, 0, 0, 0, 1);
        x.undo();
        CHECK.due("branches of before", x.count(2), 2);
        CHECK.due("12,0,1 over 13", Check.withModulus(13, "12,0,1").count(1), 2);
        CHECK.due("10,11,12,1 over 13", Check.withModulus(13, "10,11,12,1").modulus(2), 12);
    }

    private static void readModulusFaults() {
        String[] texts = {"", "x", "a=1", ",", "1,", "1,,1", "01", "00,1", "0,01", "13", "13,1", "20", "99", "1,13", "100",
            "120", "12,", "1 ,1", "-1", "1,0,0,0,0,0,0", "1,0,0,0,0,0,1,", "1,0,0,0,0,0,1,1", "1,0,0,0,0,0,13", "1,+",
            "\u00661", "1,\u0661", "0,1x", "401", "110"};
        int[] faults = {0, 0, 0, 0, 2, 2, 1, 1, 3, 1, 1, 1, 1, 3, 2, 2, 3, 1, 0, -1, 13, 13, 13, 2, 0, 2, 3, 1, 2};
        SplitTowers x = new SplitTowers();
        for (int k = 0; k < texts.length; k++) {
            int due = faults[k] < 0 ? SplitTowers.BAD_VALUE : -100 - faults[k];
            CHECK.due("readModulus of " + texts[k], Check.readModulus(x, texts[k]), due);
        }
        CHECK.due("a fault comes before a bad value", Check.readModulus(x, "12,12,"), -106);
        CHECK.due("no state", x.count(6), 0);
        CHECK.modulus(x, 0, 1);
    }

    private static void readModulusErrors() {
        SplitTowers x = new SplitTowers();
        for (String text : new String[] {"5,1", "12,1", "0,5,1", "0", "1", "5", "1,0", "0,1,0", "1,2", "0,0,5,1", "1,2,1,0"}) {
            CHECK.due("readModulus of " + text, Check.readModulus(x, text), SplitTowers.BAD_VALUE);
        }
        for (String text : new String[] {"0,0,1", "1,2,1", "0,0,1,1", "1,0,0,0,0,1", "1,0,2,0,1"}) {
            CHECK.due("readModulus of " + text, Check.readModulus(x, text), SplitTowers.NOT_POSSIBLE);
        }
        CHECK.due("x", Check.readModulus(x, "0,1"), SplitTowers.NONE);
        CHECK.due("no state", x.count(6), 0);
        x.setPrime(2);
        CHECK.due("1,0,1 over 2", Check.readModulus(x, "1,0,1"), SplitTowers.NOT_POSSIBLE);
        CHECK.due("1,0,0,0,0,0,1 over 2", Check.readModulus(x, "1,0,0,0,0,0,1"), SplitTowers.NOT_POSSIBLE);
        CHECK.due("1,0,0,0,0,1 over 2", Check.readModulus(x, "1,0,0,0,0,1"), 5);
        CHECK.due("2,1 over 2", Check.readModulus(x, "2,1"), SplitTowers.BAD_VALUE);
        x.setPrime(3);
        CHECK.due("1,0,0,1 over 3", Check.readModulus(x, "1,0,0,1"), SplitTowers.NOT_POSSIBLE);
        CHECK.due("2,0,1 over 3", Check.readModulus(x, "2,0,1"), 2);
    }

    private static void readModulusKeepsRests() {
        SplitTowers x = Check.withModulus(5, "4,0,0,1");
        Check.assign(x, "a=x");
        Check.assign(x, "b=x^2+3");
        Check.assign(x, "c=2");
        Check.readModulus(x, "3,1");
        CHECK.number(x, 0, 2);
        CHECK.number(x, 1, 2);
        CHECK.number(x, 2, 2);
        x.undo();
        CHECK.number(x, 1, 3, 0, 1);
        Check.readModulus(x, "4,0,0,0,1");
        CHECK.number(x, 1, 3, 0, 1, 0);
    }
}
