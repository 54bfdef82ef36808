/** Promises 4 to 6: setNumber, assign, put. */
public final class NumbersTest {
    private static final Check CHECK = new Check("NumbersTest");

    public static void main(String[] args) {
        setNumber();
        assignValues();
        assignQuotients();
        assignFaults();
        assignIsAnAct();
        put();
        CHECK.done();
    }

    private static void setNumber() {
        SplitTowers x = Check.withModulus(5, "4,0,0,1");
        CHECK.due("setNumber(5, 2, 4)", x.setNumber(5, 2, 4), 0);
        CHECK.due("setNumber(5, 2, 4)", x.setNumber(5, 2, 4), SplitTowers.NONE);
        CHECK.due("setNumber(5, 2, 3)", x.setNumber(5, 2, 3), 4);
        CHECK.due("setNumber(5, 0, 1)", x.setNumber(5, 0, 1), 0);
        CHECK.due("count(6)", x.count(6), 4);
        CHECK.number(x, 5, 1, 0, 3);
        CHECK.due("setNumber(5, 2, 0)", x.setNumber(5, 2, 0), 3);
        CHECK.number(x, 5, 1, 0, 0);
        CHECK.due("setNumber(0, 0, 0)", x.setNumber(0, 0, 0), SplitTowers.NONE);
        int[][] bad = {{0, -1, 0}, {0, 3, 0}, {0, 0, -1}, {0, 0, 5}, {0, Integer.MAX_VALUE, 0}, {0, 0, Integer.MIN_VALUE}};
        for (int[] row : bad) {
            CHECK.due("setNumber", x.setNumber(row[0], row[1], row[2]), SplitTowers.BAD_VALUE);
        }
        CHECK.due("setNumber(6, -1, 9)", x.setNumber(6, -1, 9), SplitTowers.UNKNOWN);
        CHECK.due("setNumber(-1, 0, 0)", x.setNumber(-1, 0, 0), SplitTowers.UNKNOWN);
        x.undo();
        CHECK.number(x, 5, 1, 0, 3);
    }

    private static void assigned(SplitTowers x, String text, int branches, int... want) {
        CHECK.due(text, Check.assign(x, text), branches);
        CHECK.number(x, text.charAt(0) - 'a', want);
    }

    private static void assignValues() {
        SplitTowers x = Check.withModulus(5, "4,0,1");
        assigned(x, "a=x^2", 1, 1, 0);
        assigned(x, "f=x^3", 1, 0, 1);
        assigned(x, "a=0^0", 1, 1, 0);
        assigned(x, "a=(x-x)^0", 1, 1, 0);
        assigned(x, "a=0^3", 1, 0, 0);
        assigned(x, "a=2^9", 1, 2, 0);
        assigned(x, "a=7", 1, 2, 0);
        assigned(x, "a=5", 1, 0, 0);
        assigned(x, "a=1-2-3", 1, 1, 0);
        assigned(x, "a=1-(2-3)", 1, 2, 0);
        assigned(x, "a=1-2*3", 1, 0, 0);
        assigned(x, "a=(1-2)*3", 1, 2, 0);
        assigned(x, "a=2*3^2", 1, 3, 0);
        assigned(x, "a=8/4/2", 1, 1, 0);
        assigned(x, "a=8/(4/2)", 1, 4, 0);
        assigned(x, "a=2/3*4", 1, 1, 0);
        assigned(x, "a=1/x-1", 1, 4, 1);
        assigned(x, "a=x+1", 1, 1, 1);
        assigned(x, "b=a*a-a", 1, 1, 1);
        assigned(x, "a=((((x))))^3", 1, 0, 1);
        assigned(x, "a=(((((x+2)))))", 1, 2, 1);
        assigned(x, "a=(1)+(2)*((3))+(((4)))", 1, 1, 0);
        assigned(x, "a=a+a", 1, 2, 0);
        CHECK.due("x itself in degree 1", Check.assign(new SplitTowers(), "a=x"), 1);
        SplitTowers y = Check.withModulus(5, "3,1");
        assigned(y, "a=x", 1, 2);
    }

    private static void assignQuotients() {
        SplitTowers x = Check.withModulus(5, "4,0,1");
        assigned(x, "a=1/x", 1, 0, 1);
        assigned(x, "a=3/0", 1, 0, 0);
        assigned(x, "b=1/(x-1)", 2, 1, 4);
        CHECK.branch(x, 0, 1, 1);
        CHECK.branch(x, 1, 4, 1);
        assigned(x, "c=b*(x-1)", 2, 3, 2);
        SplitTowers y = Check.withModulus(5, "4,0,1");
        assigned(y, "a=0/(x+1)", 2, 0, 0);
        SplitTowers z = Check.withModulus(5, "0,4,0,1");
        assigned(z, "a=(x^2-x)/(x^2-x)", 2, 0, 2, 3);
        CHECK.branch(z, 0, 1, 1);
        CHECK.branch(z, 1, 0, 4, 1);
        assigned(z, "a=1/(1/(1/x))", 3, 0, 1, 0);
        SplitTowers v = Check.withModulus(2, "1,1,0,0,0,0,1");
        assigned(v, "a=1/(x^5+x^2+1)", 1, 1, 0, 0, 1, 0, 0);
        assigned(v, "b=a*(x^5+x^2+1)", 1, 1, 0, 0, 0, 0, 0);
        assigned(v, "c=(x^4+x)/(x^3+x+1)/x", 1, 1, 0, 0, 1, 1, 1);
        assigned(v, "d=c*x*(x^3+x+1)", 1, 0, 1, 0, 0, 1, 0);
        SplitTowers w = Check.withModulus(5, "0,4,0,1");
        assigned(w, "a=x*0/x+0/(x-1)*0", 3, 0, 0, 0);
    }

    private static void assignFaults() {
        String[] texts = {"", "a", "a=", "x=1", "g=1", "A=1", "1", "a1", "a=+", "a=-1", "a=1+", "a=12", "a=1x", "a=x^", "a=x^x",
            "a=x^2^2", "a=x^10", "a=()", "a=(1", "a=(1))", "a=1)", "a=(1)(2)", "a=(1)2", "a==1", "a=b=1", "a= 1", "a=1 ",
            "a=((((((1", "a=(((((1)))))", "a=(((((1)))))+(((((2)))))", "a=(((((1))+((((1", "a=(((((1))+((1", "a=2/", "a=2*/3",
            "a=x^(2)", "a=X", "a=g", "a=(1)^2", "a=(1)^2)", "a=(1+2", "a=(1^", "ab"};
        int[] faults = {0, 1, 2, 0, 0, 0, 0, 1, 2, 2, 4, 3, 3, 4, 4,
            5, 5, 3, 4, 5, 3, 5, 5, 2, 3, 2, 3,
            7, -1, -1, 13, 14, 4, 4,
            4, 2, 2, -1, 7, 6, 5, 1};
        SplitTowers x = new SplitTowers();
        for (int k = 0; k < texts.length; k++) {
            int states = x.count(6);
            int due = faults[k] < 0 ? 1 : -100 - faults[k];
            CHECK.due("assign of " + texts[k], Check.assign(x, texts[k]), due);
            CHECK.due("states", x.count(6), Math.min(4, faults[k] < 0 ? states + 1 : states));
        }
        SplitTowers y = new SplitTowers();
        Check.text(y, "a=" + "1+".repeat(29));
        CHECK.due("a full text that ends too early", y.assign(), -160);
        Check.text(y, "a=" + "1+".repeat(28) + "10");
        CHECK.due("a full text with a fault at its end", y.assign(), -159);
        Check.text(y, "a=" + "1+".repeat(28) + "1");
        CHECK.due("a long text", y.assign(), 1);
        CHECK.number(y, 0, 4);
        Check.text(y, "a=1");
        y.type((char) 0xff11);
        CHECK.due("a strange digit", y.assign(), -103);
        SplitTowers z = Check.withModulus(5, "4,0,1");
        CHECK.due("a fault behind a quotient", Check.assign(z, "a=1/(x-1)+"), -110);
        CHECK.due("parts nothing", z.count(2), 1);
    }

    private static void assignIsAnAct() {
        SplitTowers x = Check.withModulus(5, "4,0,1");
        CHECK.due("a=a", Check.assign(x, "a=a"), 1);
        CHECK.due("it is recorded, though it changes nothing", x.count(6), 2);
        CHECK.due("a=x/(x-1)", Check.assign(x, "a=x/(x-1)"), 2);
        CHECK.due("the text stays", x.count(7), 9);
        CHECK.due("undo()", x.undo(), 2);
        CHECK.due("branches of before", x.count(2), 1);
        CHECK.number(x, 0, 0, 0);
        CHECK.due("assign() again", x.assign(), 2);
    }

    private static void put() {
        SplitTowers x = Check.withModulus(5, "4,0,1");
        Check.assign(x, "a=x+0/(x-1)");
        CHECK.due("put(0, 0, 1)", x.put(0, 0, 1), 1);
        CHECK.number(x, 0, 2, 3);
        CHECK.due("put(0, 0, 1)", x.put(0, 0, 1), SplitTowers.NONE);
        CHECK.due("put(0, 0, 0)", x.put(0, 0, 0), SplitTowers.BAD_VALUE);
        CHECK.due("put(0, 2, 0)", x.put(0, 2, 0), SplitTowers.UNKNOWN);
        CHECK.due("put(0, -1, 1)", x.put(0, -1, 1), SplitTowers.UNKNOWN);
        CHECK.due("put(6, 0, 6)", x.put(6, 0, 6), SplitTowers.UNKNOWN);
        CHECK.due("put(0, 0, 6)", x.put(0, 0, 6), SplitTowers.UNKNOWN);
        CHECK.due("put(-1, 0, 0)", x.put(-1, 0, 0), SplitTowers.UNKNOWN);
        CHECK.due("count(6)", x.count(6), 3);
        x.undo();
        CHECK.number(x, 0, 0, 1);
        SplitTowers y = Check.withModulus(5, "0,4,0,1");
        Check.assign(y, "a=1+0/x+0/(x-1)");
        Check.assign(y, "b=2");
        CHECK.due("put(0, 1, 1)", y.put(0, 1, 1), 2);
        CHECK.row("seen(0, .., 0)", k -> y.seen(0, k, 0), 2, 1, 2);
        y.undo();
        y.join(0, 2);
        CHECK.due("put with two branches", y.put(0, 0, 1), 1);
        CHECK.due("put into one branch", new SplitTowers().put(0, 0, 1), SplitTowers.NONE);
    }
}
