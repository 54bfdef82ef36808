/** Counts the answers that are not as due, and tells them. */
final class Check {
    private final String name;
    private String sentence = "";
    private int made;
    private int wrong;

    Check(String name) {
        this.name = name;
    }

    void due(String call, long got, long want) {
        made++;
        if (got != want) {
            wrong++;
            System.out.println(name + ": " + sentence + call + " answered " + got + ", due is " + want);
        }
    }

    /** The words of the document that the answers from here on are due to. */
    void sentence(String words) {
        sentence = "\"" + words + "\": ";
    }

    void that(String what, boolean holds) {
        due(what, holds ? 1 : 0, 1);
    }

    /** Puts a text in place of the one that is there. */
    static void text(SplitTowers x, String text) {
        x.clearText();
        for (int k = 0; k < text.length(); k++) {
            x.type(text.charAt(k));
        }
    }

    static int assign(SplitTowers x, String text) {
        text(x, text);
        return x.assign();
    }

    static int readModulus(SplitTowers x, String text) {
        text(x, text);
        return x.readModulus();
    }

    static SplitTowers withModulus(int prime, String modulus) {
        SplitTowers x = new SplitTowers();
        x.setPrime(prime);
        readModulus(x, modulus);
        return x;
    }

    /** A row that a call tells coefficient by coefficient, with the number 0 first. */
    interface Told {
        int at(int number);
    }

    void row(String call, Told told, int... want) {
        for (int k = 0; k < want.length; k++) {
            due(call + " at " + k, told.at(k), want[k]);
        }
    }

    void number(SplitTowers x, int register, int... want) {
        due("count(1)", x.count(1), want.length);
        row("number(" + register + ", ..)", k -> x.number(register, k), want);
    }

    void branch(SplitTowers x, int branch, int... want) {
        row("branch(" + branch + ", ..)", k -> x.branch(branch, k), want);
        due("branch(" + branch + ") beyond its degree", x.branch(branch, want.length), SplitTowers.NONE);
    }

    void modulus(SplitTowers x, int... want) {
        row("modulus(..)", x::modulus, want);
        due("modulus beyond its degree", x.modulus(want.length), SplitTowers.NONE);
    }

    void done() {
        System.out.println(name + ": " + made + " answers, " + wrong + " wrong");
        if (wrong > 0) {
            System.exit(1);
        }
    }
}
