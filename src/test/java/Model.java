import java.util.ArrayDeque;
import java.util.ArrayList;
import java.util.Arrays;
import java.util.Comparator;
import java.util.Deque;
import java.util.List;

/**
 * Another program for the same document, found by other ways: the modulus is factored by trial, a number is seen by
 * each irreducible factor, branches are sets of factors, and inverses, traces and orders are those of the fields.
 */
final class Model {
    static final int UNKNOWN = -1;
    static final int BAD_VALUE = -2;
    static final int FULL = -3;
    static final int NOT_POSSIBLE = -4;
    static final int NONE = -5;

    private static final class State {
        int p = 5;
        int[] f = {0, 1};
        List<int[]> factors = List.of(new int[] {0, 1});
        int[][] registers = new int[6][0];
        List<Integer> branches = List.of(1);

        State copy() {
            State other = new State();
            other.p = p;
            other.f = f;
            other.factors = factors;
            other.registers = registers.clone();
            other.branches = branches;
            return other;
        }
    }

    private static final class Fault extends Exception {
        private static final long serialVersionUID = 1L;
        final int place;

        Fault(int place) {
            this.place = place;
        }
    }

    private State s = new State();
    private State kept;
    private final Deque<State> history = new ArrayDeque<>();
    private final StringBuilder text = new StringBuilder();

    // ---- polynomials, as rows without zeros at their ends

    private static int[] trim(int[] a) {
        int n = a.length;
        while (n > 0 && a[n - 1] == 0) {
            n--;
        }
        return Arrays.copyOf(a, n);
    }

    private int[] add(int[] a, int[] b, int factor) {
        int[] sum = Arrays.copyOf(a, Math.max(a.length, b.length));
        for (int k = 0; k < b.length; k++) {
            sum[k] = Math.floorMod(sum[k] + factor * b[k], s.p);
        }
        return trim(sum);
    }

    private int[] times(int[] a, int[] b) {
        int[] product = new int[a.length + b.length];
        for (int i = 0; i < a.length; i++) {
            for (int k = 0; k < b.length; k++) {
                product[i + k] = (product[i + k] + a[i] * b[k]) % s.p;
            }
        }
        return trim(product);
    }

    /** The rest by a monic polynomial; the quotient is put into the row, if there is one. */
    private int[] rest(int[] a, int[] by, int[] quotient) {
        int[] left = a.clone();
        for (int k = left.length - by.length; k >= 0; k--) {
            int factor = left[k + by.length - 1];
            if (quotient != null) {
                quotient[k] = factor;
            }
            for (int i = 0; i < by.length; i++) {
                left[k + i] = Math.floorMod(left[k + i] - factor * by[i], s.p);
            }
        }
        return trim(left);
    }

    private int[] rest(int[] a, int[] by) {
        return rest(a, by, null);
    }

    private int[] quotient(int[] a, int[] by) {
        int[] quotient = new int[Math.max(0, a.length - by.length + 1)];
        rest(a, by, quotient);
        return trim(quotient);
    }

    private int[] raised(int[] a, long exponent, int[] by) {
        int[] result = rest(new int[] {1}, by);
        int[] square = rest(a, by);
        for (long left = exponent; left > 0; left /= 2) {
            if (left % 2 == 1) {
                result = rest(times(result, square), by);
            }
            square = rest(times(square, square), by);
        }
        return result;
    }

    private static long size(int p, int degree) {
        long size = 1;
        for (int k = 0; k < degree; k++) {
            size *= p;
        }
        return size;
    }

    /** The irreducible factors of a monic polynomial, found by trying all monic polynomials. */
    private List<int[]> factored(int[] polynomial) {
        List<int[]> found = new ArrayList<>();
        int[] left = polynomial;
        for (int degree = 1; 2 * degree <= left.length - 1; degree++) {
            long size = size(s.p, degree);
            for (long code = 0; code < size && 2 * degree <= left.length - 1; code++) {
                int[] tried = monic(code, degree);
                while (left.length > degree && rest(left, tried).length == 0) {
                    found.add(tried);
                    left = quotient(left, tried);
                }
            }
        }
        if (left.length > 1) {
            found.add(left);
        }
        return found;
    }

    private int[] monic(long code, int degree) {
        int[] polynomial = new int[degree + 1];
        long left = code;
        for (int k = 0; k < degree; k++) {
            polynomial[k] = (int) (left % s.p);
            left /= s.p;
        }
        polynomial[degree] = 1;
        return polynomial;
    }

    // ---- branches, as sets of factors

    private int[] product(int set) {
        int[] product = {1};
        for (int k = 0; k < s.factors.size(); k++) {
            if ((set >> k & 1) == 1) {
                product = times(product, s.factors.get(k));
            }
        }
        return product;
    }

    private int nothings(int[] number) {
        int set = 0;
        for (int k = 0; k < s.factors.size(); k++) {
            if (rest(number, s.factors.get(k)).length == 0) {
                set |= 1 << k;
            }
        }
        return set;
    }

    private static int compare(int[] a, int[] b) {
        if (a.length != b.length) {
            return a.length - b.length;
        }
        for (int k = a.length - 1; k >= 0; k--) {
            if (a[k] != b[k]) {
                return a[k] - b[k];
            }
        }
        return 0;
    }

    private void setBranches(List<Integer> sets) {
        List<Integer> sorted = new ArrayList<>(sets);
        Comparator<Integer> order = (a, b) -> compare(product(a), product(b));
        sorted.sort(order);
        s.branches = sorted;
    }

    private void partBySet(int set) {
        List<Integer> parts = new ArrayList<>();
        for (int branch : s.branches) {
            if ((branch & set) != 0) {
                parts.add(branch & set);
            }
            if ((branch & ~set) != 0) {
                parts.add(branch & ~set);
            }
        }
        setBranches(parts);
    }

    /** The number with these rests by the factors. */
    private int[] together(int[][] rests) {
        int[] number = {};
        for (int k = 0; k < s.factors.size(); k++) {
            int[] factor = s.factors.get(k);
            int[] others = quotient(s.f, factor);
            int[] inverse = raised(others, size(s.p, factor.length - 1) - 2, factor);
            number = add(number, times(times(others, inverse), rests[k]), 1);
        }
        return rest(number, s.f);
    }

    private int[] divided(int[] a, int[] b) {
        partBySet(nothings(b));
        int[][] rests = new int[s.factors.size()][];
        for (int k = 0; k < rests.length; k++) {
            int[] factor = s.factors.get(k);
            int[] divisor = rest(b, factor);
            rests[k] = divisor.length == 0 ? divisor
                    : rest(times(a, raised(divisor, size(s.p, factor.length - 1) - 2, factor)), factor);
        }
        return together(rests);
    }

    // ---- texts

    private int place;
    private int open;

    private char next() {
        return place < text.length() ? text.charAt(place) : (char) 0xffff;
    }

    private int[] expression() throws Fault {
        int[] sum = product();
        while (next() == '+' || next() == '-') {
            int factor = next() == '+' ? 1 : -1;
            place++;
            sum = add(sum, product(), factor);
        }
        return sum;
    }

    private int[] product() throws Fault {
        int[] product = factor();
        while (next() == '*' || next() == '/') {
            boolean over = next() == '/';
            place++;
            int[] other = factor();
            product = over ? divided(product, other) : rest(times(product, other), s.f);
        }
        return product;
    }

    private int[] factor() throws Fault {
        int[] simple = simple();
        if (next() != '^') {
            return simple;
        }
        place++;
        if (next() < '0' || next() > '9') {
            throw new Fault(place);
        }
        int[] power = {1};
        for (int k = next() - '0'; k > 0; k--) {
            power = rest(times(power, simple), s.f);
        }
        place++;
        return power;
    }

    private int[] simple() throws Fault {
        char c = next();
        if (c == '(') {
            if (open == 5) {
                throw new Fault(place);
            }
            open++;
            place++;
            int[] inner = expression();
            if (next() != ')') {
                throw new Fault(place);
            }
            open--;
            place++;
            return inner;
        }
        place++;
        if (c >= 'a' && c <= 'f') {
            return s.registers[c - 'a'];
        }
        if (c == 'x') {
            return rest(new int[] {0, 1}, s.f);
        }
        if (c >= '0' && c <= '9') {
            return trim(new int[] {(c - '0') % s.p});
        }
        throw new Fault(place - 1);
    }

    private List<Integer> polynomial() throws Fault {
        List<Integer> told = new ArrayList<>();
        place = 0;
        while (true) {
            if (next() < '0' || next() > '9') {
                throw new Fault(place);
            }
            int value = next() - '0';
            place++;
            if (value == 1 && next() >= '0' && next() <= '2') {
                value = 10 + next() - '0';
                place++;
            }
            told.add(value);
            if (place == text.length()) {
                return told;
            }
            if (next() != ',' || told.size() == 7) {
                throw new Fault(place);
            }
            place++;
        }
    }

    // ---- the face

    private void record(State before) {
        history.addLast(before);
        if (history.size() > 4) {
            history.removeFirst();
        }
    }

    private static boolean isRegister(int register) {
        return register >= 0 && register <= 5;
    }

    private boolean isBranch(int branch) {
        return branch >= 0 && branch < s.branches.size();
    }

    private boolean isPlace(int number) {
        return number >= 0 && number < s.f.length - 1;
    }

    private static int at(int[] a, int k) {
        return k < a.length ? a[k] : 0;
    }

    private static int told(int[] a, int number) {
        return number < 0 ? BAD_VALUE : number >= a.length ? NONE : a[number];
    }

    int setPrime(int prime) {
        if (!List.of(2, 3, 5, 7, 11, 13).contains(prime)) {
            return BAD_VALUE;
        }
        if (prime == s.p) {
            return NONE;
        }
        record(s);
        int previous = s.p;
        s = new State();
        s.p = prime;
        return previous;
    }

    int readModulus() {
        int[] told;
        try {
            told = polynomial().stream().mapToInt(k -> k).toArray();
        } catch (Fault fault) {
            return -100 - fault.place;
        }
        for (int value : told) {
            if (value >= s.p) {
                return BAD_VALUE;
            }
        }
        if (told[told.length - 1] != 1 || told.length == 1) {
            return BAD_VALUE;
        }
        List<int[]> factors = factored(told);
        for (int i = 0; i < factors.size(); i++) {
            for (int k = 0; k < i; k++) {
                if (Arrays.equals(factors.get(i), factors.get(k))) {
                    return NOT_POSSIBLE;
                }
            }
        }
        if (Arrays.equals(told, s.f)) {
            return NONE;
        }
        record(s);
        s = s.copy();
        s.f = told;
        s.factors = factors;
        s.branches = List.of((1 << factors.size()) - 1);
        for (int k = 0; k < 6; k++) {
            s.registers[k] = rest(s.registers[k], told);
        }
        return told.length - 1;
    }

    int setNumber(int register, int number, int value) {
        if (!isRegister(register)) {
            return UNKNOWN;
        }
        if (!isPlace(number) || value < 0 || value >= s.p) {
            return BAD_VALUE;
        }
        int previous = at(s.registers[register], number);
        if (previous == value) {
            return NONE;
        }
        record(s);
        s = s.copy();
        int[] changed = Arrays.copyOf(s.registers[register], 6);
        changed[number] = value;
        s.registers[register] = trim(changed);
        return previous;
    }

    int assign() {
        State before = s;
        s = s.copy();
        try {
            place = 0;
            open = 0;
            if (next() < 'a' || next() > 'f') {
                throw new Fault(0);
            }
            place++;
            if (next() != '=') {
                throw new Fault(1);
            }
            place++;
            int[] value = expression();
            if (place < text.length()) {
                throw new Fault(place);
            }
            s.registers[text.charAt(0) - 'a'] = value;
        } catch (Fault fault) {
            s = before;
            return -100 - fault.place;
        }
        record(before);
        return s.branches.size();
    }

    int put(int register, int branch, int other) {
        if (!isRegister(register) || !isBranch(branch) || !isRegister(other)) {
            return UNKNOWN;
        }
        if (register == other) {
            return BAD_VALUE;
        }
        int inside = s.branches.get(branch);
        int[][] rests = new int[s.factors.size()][];
        int different = 0;
        for (int k = 0; k < rests.length; k++) {
            int[] own = rest(s.registers[register], s.factors.get(k));
            rests[k] = (inside >> k & 1) == 1 ? own : rest(s.registers[other], s.factors.get(k));
            if (!Arrays.equals(own, rests[k])) {
                different |= 1 << k;
            }
        }
        int changed = 0;
        for (int set : s.branches) {
            changed += (set & different) != 0 ? 1 : 0;
        }
        if (changed == 0) {
            return NONE;
        }
        record(s);
        s = s.copy();
        s.registers[register] = together(rests);
        return changed;
    }

    private boolean partedTo(int set) {
        int before = s.branches.size();
        partBySet(set);
        return s.branches.size() > before;
    }

    int part(int register) {
        if (!isRegister(register)) {
            return UNKNOWN;
        }
        State before = s;
        s = s.copy();
        int set = nothings(s.registers[register]);
        if (!partedTo(set)) {
            s = before;
            return NONE;
        }
        record(before);
        return (int) s.branches.stream().filter(branch -> (branch & set) != 0).count();
    }

    int partByDegrees() {
        State before = s;
        s = s.copy();
        boolean parted = false;
        for (int degree = 1; degree <= 6; degree++) {
            int set = 0;
            for (int k = 0; k < s.factors.size(); k++) {
                set |= s.factors.get(k).length == degree + 1 ? 1 << k : 0;
            }
            parted |= partedTo(set);
        }
        if (!parted) {
            s = before;
            return NONE;
        }
        record(before);
        return s.branches.size();
    }

    int join(int one, int other) {
        if (!isBranch(one) || !isBranch(other)) {
            return UNKNOWN;
        }
        if (one == other) {
            return BAD_VALUE;
        }
        record(s);
        s = s.copy();
        Integer joined = s.branches.get(one) | s.branches.get(other);
        List<Integer> left = new ArrayList<>(s.branches);
        left.remove(Math.max(one, other));
        left.remove(Math.min(one, other));
        left.add(joined);
        setBranches(left);
        return s.branches.indexOf(joined);
    }

    int joinAlike(int register) {
        if (!isRegister(register)) {
            return UNKNOWN;
        }
        int set = nothings(s.registers[register]);
        int nothing = 0;
        int other = 0;
        for (int branch : s.branches) {
            if ((branch & set) != 0 && (branch & ~set) != 0) {
                return NOT_POSSIBLE;
            }
            nothing |= branch & set;
            other |= branch & ~set;
        }
        List<Integer> joined = new ArrayList<>();
        if (nothing != 0) {
            joined.add(nothing);
        }
        if (other != 0) {
            joined.add(other);
        }
        if (joined.size() == s.branches.size()) {
            return NONE;
        }
        record(s);
        s = s.copy();
        setBranches(joined);
        return joined.size();
    }

    int type(char character) {
        if (text.length() == 60) {
            return FULL;
        }
        text.append(character);
        return text.length();
    }

    int clearText() {
        int length = text.length();
        text.setLength(0);
        return length;
    }

    int undo() {
        if (history.isEmpty()) {
            return NONE;
        }
        s = history.removeLast();
        return history.size();
    }

    int keep() {
        kept = s;
        return s.branches.size();
    }

    int restore() {
        if (kept == null) {
            return NONE;
        }
        record(s);
        s = kept;
        return s.branches.size();
    }

    int modulus(int number) {
        return told(s.f, number);
    }

    int number(int register, int number) {
        return !isRegister(register) ? UNKNOWN : !isPlace(number) ? BAD_VALUE : at(s.registers[register], number);
    }

    int branch(int branch, int number) {
        return isBranch(branch) ? told(product(s.branches.get(branch)), number) : UNKNOWN;
    }

    int seen(int register, int branch, int number) {
        if (!isRegister(register) || !isBranch(branch)) {
            return UNKNOWN;
        }
        int[] by = product(s.branches.get(branch));
        return number < 0 || number >= by.length - 1 ? BAD_VALUE : at(rest(s.registers[register], by), number);
    }

    int kind(int register, int branch) {
        if (!isRegister(register) || !isBranch(branch)) {
            return UNKNOWN;
        }
        int set = s.branches.get(branch);
        int nothing = nothings(s.registers[register]) & set;
        return nothing == set ? 0 : nothing == 0 ? 1 : 2;
    }

    int unit(int branch, int number) {
        if (!isBranch(branch)) {
            return UNKNOWN;
        }
        if (!isPlace(number)) {
            return BAD_VALUE;
        }
        int[][] rests = new int[s.factors.size()][];
        for (int k = 0; k < rests.length; k++) {
            rests[k] = (s.branches.get(branch) >> k & 1) == 1 ? new int[] {1} : new int[0];
        }
        return at(together(rests), number);
    }

    int power(int register, int exponent, int number) {
        if (!isRegister(register)) {
            return UNKNOWN;
        }
        if (exponent < 0 || exponent > 1000000 || !isPlace(number)) {
            return BAD_VALUE;
        }
        int[][] rests = new int[s.factors.size()][];
        for (int k = 0; k < rests.length; k++) {
            rests[k] = raised(s.registers[register], exponent, s.factors.get(k));
        }
        return at(together(rests), number);
    }

    /** The powers of a number in one of the fields with the exponents 1, p, p * p and so on, up to its degree. */
    private List<int[]> conjugates(int[] number, int[] factor) {
        List<int[]> row = new ArrayList<>();
        int[] next = rest(number, factor);
        for (int k = 0; k < factor.length - 1; k++) {
            row.add(next);
            next = raised(next, s.p, factor);
        }
        return row;
    }

    private int[] leastIn(int[] number, int[] factor) {
        List<int[]> roots = new ArrayList<>();
        for (int[] root : conjugates(number, factor)) {
            if (roots.stream().noneMatch(other -> Arrays.equals(other, root))) {
                roots.add(root);
            }
        }
        List<int[]> polynomial = new ArrayList<>(List.of(new int[] {1}));
        for (int[] root : roots) {
            List<int[]> longer = new ArrayList<>();
            for (int k = 0; k <= polynomial.size(); k++) {
                int[] lower = k > 0 ? polynomial.get(k - 1) : new int[0];
                int[] upper = k < polynomial.size() ? rest(times(root, polynomial.get(k)), factor) : new int[0];
                longer.add(add(lower, upper, -1));
            }
            polynomial = longer;
        }
        int[] constants = new int[polynomial.size()];
        for (int k = 0; k < constants.length; k++) {
            if (polynomial.get(k).length > 1) {
                throw new IllegalStateException("a least polynomial has coefficients that are no constants");
            }
            constants[k] = at(polynomial.get(k), 0);
        }
        return constants;
    }

    int leastPolynomial(int register, int number) {
        if (!isRegister(register)) {
            return UNKNOWN;
        }
        List<int[]> found = new ArrayList<>();
        int[] product = {1};
        for (int[] factor : s.factors) {
            int[] least = leastIn(s.registers[register], factor);
            if (found.stream().noneMatch(other -> Arrays.equals(other, least))) {
                found.add(least);
                product = times(product, least);
            }
        }
        return told(product, number);
    }

    int trace(int register) {
        if (!isRegister(register)) {
            return UNKNOWN;
        }
        int[] sum = {};
        for (int[] factor : s.factors) {
            for (int[] conjugate : conjugates(s.registers[register], factor)) {
                sum = add(sum, conjugate, 1);
            }
        }
        if (sum.length > 1) {
            throw new IllegalStateException("a trace is no constant");
        }
        return at(sum, 0);
    }

    int order(int register) {
        if (!isRegister(register)) {
            return UNKNOWN;
        }
        long order = 1;
        for (int[] factor : s.factors) {
            int[] number = rest(s.registers[register], factor);
            if (number.length == 0) {
                return NONE;
            }
            long size = size(s.p, factor.length - 1) - 1;
            long own = size;
            for (long k = 1; k * k <= size; k++) {
                for (long divisor : size % k == 0 ? new long[] {k, size / k} : new long[0]) {
                    int[] power = divisor < own ? raised(number, divisor, factor) : new int[0];
                    own = Arrays.equals(power, new int[] {1}) ? divisor : own;
                }
            }
            long a = order;
            long b = own;
            while (b > 0) {
                long t = a % b;
                a = b;
                b = t;
            }
            order = order / a * own;
        }
        return (int) order;
    }

    int factors(int degree) {
        if (degree < 1 || degree > 6) {
            return BAD_VALUE;
        }
        return (int) s.factors.stream().filter(factor -> factor.length == degree + 1).count();
    }

    int count(int what) {
        switch (what) {
            case 0: return s.p;
            case 1: return s.f.length - 1;
            case 2: return s.branches.size();
            case 3: return s.factors.size();
            case 4: return s.branches.stream().mapToInt(set -> product(set).length - 1).max().orElse(0);
            case 5: return (int) Arrays.stream(s.registers).filter(register -> register.length == 0).count();
            case 6: return history.size();
            case 7: return text.length();
            default: return BAD_VALUE;
        }
    }
}
