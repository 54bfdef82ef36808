/**
 * Numbers modulo a polynomial over a prime, which is parted into branches when a number is met that is neither
 * nothing nor can be inverted. All room is made by the constructor; no call makes an object.
 */
public final class SplitTowers {
    public static final int UNKNOWN = -1;
    public static final int BAD_VALUE = -2;
    public static final int FULL = -3;
    public static final int NOT_POSSIBLE = -4;
    public static final int NONE = -5;

    private static final int FIRST_PRIME = 5;
    private static final int REGISTERS = 6;
    private static final int MOST_DEGREE = 6;
    private static final int MOST_EXPONENT = 1000000;
    private static final int FAULT_FROM = -100;
    private static final int NOTHING = 0;
    private static final int INVERTIBLE = 1;
    private static final int MIXED = 2;

    private final State now;
    private final State snapshot;
    private boolean kept;
    private final History history;
    private final Text text;
    private final Field field;
    private final Ring ring;
    private final Degrees degrees;
    private final Branching branching;
    private final Reckoner reckoner;
    private final Poly answer;

    public SplitTowers() {
        State state = new State();
        Text typed = new Text();
        Field polynomials = new Field(state);
        Ring numbers = new Ring(state, polynomials);
        Branching parted = new Branching(state, polynomials);
        degrees = new Degrees(state, polynomials, numbers);
        reckoner = new Reckoner(state, typed, numbers, parted);
        now = state;
        text = typed;
        field = polynomials;
        ring = numbers;
        branching = parted;
        snapshot = new State();
        kept = false;
        history = new History();
        answer = new Poly();
    }

    // ---- the modulus

    public int setPrime(int prime) {
        if (!isPrime(prime)) {
            return BAD_VALUE;
        }
        int previous = now.prime;
        if (prime == previous) {
            return NONE;
        }
        history.record(now);
        now.start(prime);
        return previous;
    }

    public int readModulus() {
        int fault = text.polynomialFault();
        if (fault >= 0) {
            return FAULT_FROM - fault;
        }
        if (!isModulusTold()) {
            return BAD_VALUE;
        }
        text.copyPolynomial(answer);
        if (field.hasSquare(answer)) {
            return NOT_POSSIBLE;
        }
        if (answer.sameAs(now.modulus)) {
            return NONE;
        }
        history.record(now);
        now.takeModulus(answer);
        for (int k = 0; k < REGISTERS; k++) {
            field.reduce(now.registers[k], now.modulus);
        }
        return now.modulus.degree;
    }

    // ---- numbers

    public int setNumber(int register, int number, int value) {
        if (!isRegister(register)) {
            return UNKNOWN;
        }
        if (!isPlace(number) || value < 0 || value >= now.prime) {
            return BAD_VALUE;
        }
        int previous = now.registers[register].at(number);
        if (value == previous) {
            return NONE;
        }
        history.record(now);
        now.registers[register].set(number, value);
        return previous;
    }

    public int assign() {
        int fault = text.assignmentFault();
        if (fault >= 0) {
            return FAULT_FROM - fault;
        }
        int register = text.at(0) - 'a';
        if (!isRegister(register)) {
            return FAULT_FROM;
        }
        history.record(now);
        reckoner.reckon(now.registers[register]);
        return now.branchCount;
    }

    public int put(int register, int branch, int other) {
        if (!isRegister(register) || !isBranch(branch) || !isRegister(other)) {
            return UNKNOWN;
        }
        if (register == other) {
            return BAD_VALUE;
        }
        Poly number = now.registers[register];
        ring.putTogether(answer, number, now.branches[branch], now.registers[other]);
        int changed = branching.countDifferent(number, answer);
        if (changed == 0) {
            return NONE;
        }
        history.record(now);
        number.copy(answer);
        return changed;
    }

    // ---- branches

    public int part(int register) {
        if (!isRegister(register)) {
            return UNKNOWN;
        }
        Poly number = now.registers[register];
        if (branching.countOfKind(number, MIXED) == 0) {
            return NONE;
        }
        history.record(now);
        branching.partBy(number);
        return branching.countOfKind(number, NOTHING);
    }

    public int partByDegrees() {
        degrees.find();
        boolean parts = false;
        for (int degree = 1; degree <= MOST_DEGREE; degree++) {
            parts = parts || branching.countOfKind(degrees.products[degree], MIXED) > 0;
        }
        if (!parts) {
            return NONE;
        }
        history.record(now);
        for (int degree = 1; degree <= MOST_DEGREE; degree++) {
            branching.partBy(degrees.products[degree]);
        }
        return now.branchCount;
    }

    public int join(int one, int other) {
        if (!isBranch(one) || !isBranch(other)) {
            return UNKNOWN;
        }
        if (one == other) {
            return BAD_VALUE;
        }
        history.record(now);
        return branching.joinTwo(one, other);
    }

    public int joinAlike(int register) {
        if (!isRegister(register)) {
            return UNKNOWN;
        }
        Poly number = now.registers[register];
        if (branching.countOfKind(number, MIXED) > 0) {
            return NOT_POSSIBLE;
        }
        if (branching.countOfKind(number, NOTHING) < 2 && branching.countOfKind(number, INVERTIBLE) < 2) {
            return NONE;
        }
        history.record(now);
        branching.joinByKind(number);
        return now.branchCount;
    }

    // ---- texts

    public int type(char character) {
        return text.add(character) ? text.length : FULL;
    }

    public int clearText() {
        int previous = text.length;
        text.length = 0;
        return previous;
    }

    // ---- history

    public int undo() {
        if (history.length == 0) {
            return NONE;
        }
        history.takeBack(now);
        return history.length;
    }

    public int keep() {
        snapshot.copy(now);
        kept = true;
        return now.branchCount;
    }

    public int restore() {
        if (!kept) {
            return NONE;
        }
        history.record(now);
        now.copy(snapshot);
        return now.branchCount;
    }

    // ---- what is told

    public int modulus(int number) {
        return coefficientTold(now.modulus, number);
    }

    public int number(int register, int number) {
        if (!isRegister(register)) {
            return UNKNOWN;
        }
        return isPlace(number) ? now.registers[register].at(number) : BAD_VALUE;
    }

    public int branch(int branch, int number) {
        return isBranch(branch) ? coefficientTold(now.branches[branch], number) : UNKNOWN;
    }

    public int seen(int register, int branch, int number) {
        if (!isRegister(register) || !isBranch(branch)) {
            return UNKNOWN;
        }
        Poly by = now.branches[branch];
        if (number < 0 || number >= by.degree) {
            return BAD_VALUE;
        }
        answer.copy(now.registers[register]);
        field.reduce(answer, by);
        return answer.at(number);
    }

    public int kind(int register, int branch) {
        if (!isRegister(register) || !isBranch(branch)) {
            return UNKNOWN;
        }
        return branching.kindIn(now.branches[branch], now.registers[register]);
    }

    public int unit(int branch, int number) {
        if (!isBranch(branch)) {
            return UNKNOWN;
        }
        if (!isPlace(number)) {
            return BAD_VALUE;
        }
        ring.unitOf(answer, now.branches[branch]);
        return answer.at(number);
    }

    public int power(int register, int exponent, int number) {
        if (!isRegister(register)) {
            return UNKNOWN;
        }
        if (exponent < 0 || exponent > MOST_EXPONENT || !isPlace(number)) {
            return BAD_VALUE;
        }
        ring.raise(answer, now.registers[register], exponent);
        return answer.at(number);
    }

    public int leastPolynomial(int register, int number) {
        if (!isRegister(register)) {
            return UNKNOWN;
        }
        if (number < 0) {
            return BAD_VALUE;
        }
        ring.findLeastPolynomial(answer, now.registers[register]);
        return coefficientTold(answer, number);
    }

    public int trace(int register) {
        return isRegister(register) ? ring.traceOf(now.registers[register]) : UNKNOWN;
    }

    public int order(int register) {
        if (!isRegister(register)) {
            return UNKNOWN;
        }
        Poly number = now.registers[register];
        if (branching.kindIn(now.modulus, number) != INVERTIBLE) {
            return NONE;
        }
        degrees.find();
        return ring.leastExponent(number, degrees.commonExponent());
    }

    public int factors(int degree) {
        if (degree < 1 || degree > MOST_DEGREE) {
            return BAD_VALUE;
        }
        degrees.find();
        return degrees.factorsOf(degree);
    }

    public int count(int what) {
        switch (what) {
            case 0:
                return now.prime;
            case 1:
                return now.modulus.degree;
            case 2:
                return now.branchCount;
            case 3:
                degrees.find();
                return degrees.allFactors();
            case 4:
                return now.greatestBranchDegree();
            case 5:
                return now.emptyRegisters();
            case 6:
                return history.length;
            case 7:
                return text.length;
            default:
                return BAD_VALUE;
        }
    }

    // ---- what the calls above share

    private static boolean isPrime(int value) {
        return value == 2 || value == 3 || value == 5 || value == 7 || value == 11 || value == 13;
    }

    private static boolean isRegister(int register) {
        return register >= 0 && register < REGISTERS;
    }

    private boolean isBranch(int branch) {
        return branch >= 0 && branch < now.branchCount;
    }

    private boolean isPlace(int number) {
        return number >= 0 && number < now.modulus.degree;
    }

    private boolean isModulusTold() {
        for (int k = 0; k < text.toldCount; k++) {
            if (text.told[k] >= now.prime) {
                return false;
            }
        }
        return text.toldCount > 1 && text.told[text.toldCount - 1] == 1;
    }

    private static int coefficientTold(Poly polynomial, int number) {
        if (number < 0) {
            return BAD_VALUE;
        }
        return number > polynomial.degree ? NONE : polynomial.at(number);
    }

    /** A polynomial; all its coefficients above its degree are 0. */
    private static final class Poly {
        // The greatest product is of two polynomials that are no greater than the modulus.
        static final int ROOM = 2 * MOST_DEGREE + 1;

        private final int[] coefficients;
        int degree;

        Poly() {
            coefficients = new int[ROOM];
            degree = -1;
        }

        int at(int place) {
            return place >= 0 && place < ROOM ? coefficients[place] : 0;
        }

        void set(int place, int value) {
            if (place < 0 || place >= ROOM) {
                return;
            }
            coefficients[place] = value;
            degree = Math.max(degree, place);
            lowerDegree();
        }

        void clear() {
            for (int k = 0; k < ROOM; k++) {
                coefficients[k] = 0;
            }
            degree = -1;
        }

        void becomeConstant(int value) {
            clear();
            set(0, value);
        }

        void becomeVariable() {
            clear();
            set(1, 1);
        }

        void copy(Poly from) {
            for (int k = 0; k < ROOM; k++) {
                coefficients[k] = from.coefficients[k];
            }
            degree = from.degree;
        }

        /** Adds a multiple of another polynomial, times x to the power of the shift. */
        void addMultiple(int factor, Poly other, int shift, int prime) {
            int last = other.degree + shift;
            if (prime < 2 || shift < 0 || last >= ROOM) {
                return;
            }
            for (int k = 0; k <= other.degree; k++) {
                int sum = (coefficients[k + shift] + factor * other.coefficients[k]) % prime;
                coefficients[k + shift] = sum < 0 ? sum + prime : sum;
            }
            degree = Math.max(degree, last);
            lowerDegree();
        }

        boolean isOne() {
            return degree == 0 && coefficients[0] == 1;
        }

        boolean sameAs(Poly other) {
            for (int k = 0; k < ROOM; k++) {
                if (coefficients[k] != other.coefficients[k]) {
                    return false;
                }
            }
            return true;
        }

        boolean comesBefore(Poly other) {
            if (degree != other.degree) {
                return degree < other.degree;
            }
            for (int k = ROOM - 1; k >= 0; k--) {
                if (coefficients[k] != other.coefficients[k]) {
                    return coefficients[k] < other.coefficients[k];
                }
            }
            return false;
        }

        private void lowerDegree() {
            while (degree >= 0 && coefficients[degree] == 0) {
                degree--;
            }
        }
    }

    /** All that undo and the snapshot bring back. */
    private static final class State {
        int prime;
        final Poly modulus;
        final Poly[] registers;
        final Poly[] branches;
        int branchCount;

        State() {
            modulus = new Poly();
            registers = new Poly[REGISTERS];
            for (int k = 0; k < REGISTERS; k++) {
                registers[k] = new Poly();
            }
            branches = new Poly[MOST_DEGREE];
            for (int k = 0; k < MOST_DEGREE; k++) {
                branches[k] = new Poly();
            }
            start(FIRST_PRIME);
        }

        void start(int firstPrime) {
            prime = firstPrime;
            modulus.becomeVariable();
            for (int k = 0; k < REGISTERS; k++) {
                registers[k].clear();
            }
            becomeOneBranch();
        }

        void takeModulus(Poly polynomial) {
            modulus.copy(polynomial);
            becomeOneBranch();
        }

        void copy(State from) {
            prime = from.prime;
            modulus.copy(from.modulus);
            for (int k = 0; k < REGISTERS; k++) {
                registers[k].copy(from.registers[k]);
            }
            for (int k = 0; k < MOST_DEGREE; k++) {
                branches[k].copy(from.branches[k]);
            }
            branchCount = from.branchCount;
        }

        /** The rest of a value by the prime. */
        int reduced(int value) {
            if (prime < 2) {
                return 0;
            }
            int rest = value % prime;
            return rest < 0 ? rest + prime : rest;
        }

        void addBranch(Poly branch) {
            if (branchCount < MOST_DEGREE) {
                branches[branchCount].copy(branch);
                branchCount++;
            }
        }

        void sortBranches() {
            for (int end = branchCount - 1; end > 0; end--) {
                for (int k = 0; k < end; k++) {
                    Poly lower = branches[k];
                    Poly upper = branches[k + 1];
                    if (upper.comesBefore(lower)) {
                        branches[k] = upper;
                        branches[k + 1] = lower;
                    }
                }
            }
        }

        int greatestBranchDegree() {
            int greatest = 0;
            for (int k = 0; k < branchCount; k++) {
                greatest = Math.max(greatest, branches[k].degree);
            }
            return greatest;
        }

        int emptyRegisters() {
            int empty = 0;
            for (int k = 0; k < REGISTERS; k++) {
                if (registers[k].degree < 0) {
                    empty++;
                }
            }
            return empty;
        }

        private void becomeOneBranch() {
            branchCount = 0;
            addBranch(modulus);
        }
    }

    /** The latest states, in a row that is written round and round, so that the oldest is the one that is lost. */
    private static final class History {
        static final int MOST = 4;

        private final State[] states;
        private int next;
        int length;

        History() {
            states = new State[MOST];
            for (int k = 0; k < MOST; k++) {
                states[k] = new State();
            }
            next = 0;
            length = 0;
        }

        void record(State state) {
            states[next].copy(state);
            next = next == MOST - 1 ? 0 : next + 1;
            length = Math.min(length + 1, MOST);
        }

        void takeBack(State state) {
            if (length > 0) {
                next = next == 0 ? MOST - 1 : next - 1;
                state.copy(states[next]);
                length--;
            }
        }
    }

    /** The text that is typed, and where its faults are. */
    private static final class Text {
        static final int MOST = 60;
        static final int MOST_OPEN = 5;
        static final int MOST_TOLD = MOST_DEGREE + 1;
        static final int EXPRESSION_FROM = 2;
        private static final int MOST_COEFFICIENT = 12;
        private static final int NO_FAULT = -1;
        // What the next character of an expression may be.
        private static final int SIMPLE = 0;
        private static final int BEHIND_SIMPLE = 1;
        private static final int EXPONENT = 2;
        private static final int BEHIND_EXPONENT = 3;

        private final int[] characters;
        int length;
        final int[] told;
        int toldCount;

        Text() {
            characters = new int[MOST];
            length = 0;
            told = new int[MOST_TOLD];
            toldCount = 0;
        }

        boolean add(char character) {
            if (length >= MOST) {
                return false;
            }
            characters[length] = character;
            length++;
            return true;
        }

        int at(int place) {
            return place >= 0 && place < length ? characters[place] : 0;
        }

        static boolean isDigit(int character) {
            return character >= '0' && character <= '9';
        }

        static boolean isRegisterLetter(int character) {
            return character >= 'a' && character <= 'f';
        }

        /** The fault of the text as a polynomial, or -1; without a fault, its coefficients are told then. */
        int polynomialFault() {
            toldCount = 0;
            int value = -1;
            for (int place = 0; place < length; place++) {
                int character = characters[place];
                if (isDigit(character)) {
                    int longer = Math.max(value, 0) * 10 + character - '0';
                    if (value == 0 || longer > MOST_COEFFICIENT) {
                        return place;
                    }
                    value = longer;
                } else if (character == ',' && value >= 0 && toldCount < MOST_TOLD - 1) {
                    tell(value);
                    value = -1;
                } else {
                    return place;
                }
            }
            if (value < 0) {
                return length;
            }
            tell(value);
            return NO_FAULT;
        }

        void copyPolynomial(Poly to) {
            to.clear();
            for (int k = 0; k < toldCount; k++) {
                to.set(k, told[k]);
            }
        }

        /** The fault of the text as an assignment, or -1. */
        int assignmentFault() {
            if (!isRegisterLetter(at(0))) {
                return 0;
            }
            if (at(1) != '=') {
                return 1;
            }
            int open = 0;
            int expected = SIMPLE;
            for (int place = EXPRESSION_FROM; place < length; place++) {
                int character = characters[place];
                expected = expectedBehind(character, expected);
                open += character == '(' ? 1 : character == ')' ? -1 : 0;
                if (expected < 0 || open < 0 || open > MOST_OPEN) {
                    return place;
                }
            }
            boolean whole = open == 0 && (expected == BEHIND_SIMPLE || expected == BEHIND_EXPONENT);
            return whole ? NO_FAULT : length;
        }

        /** What is expected behind a character, or -1 if this is not allowed, whatever parentheses are open. */
        private static int expectedBehind(int character, int expected) {
            if (expected == SIMPLE) {
                boolean simple = isRegisterLetter(character) || isDigit(character) || character == 'x';
                return simple ? BEHIND_SIMPLE : character == '(' ? SIMPLE : -1;
            }
            if (expected == EXPONENT) {
                return isDigit(character) ? BEHIND_EXPONENT : -1;
            }
            switch (character) {
                case '+':
                case '-':
                case '*':
                case '/':
                    return SIMPLE;
                case ')':
                    return BEHIND_SIMPLE;
                case '^':
                    return expected == BEHIND_SIMPLE ? EXPONENT : -1;
                default:
                    return -1;
            }
        }

        private void tell(int value) {
            if (toldCount < MOST_TOLD) {
                told[toldCount] = value;
                toldCount++;
            }
        }
    }

    /** Reckons with polynomials over the prime. */
    private static final class Field {
        private final State state;
        private final Poly product;
        private final Poly quotient;
        private final Poly dividend;
        private final Poly left;
        private final Poly right;
        private final Poly leftFactor;
        private final Poly rightFactor;

        Field(State state) {
            this.state = state;
            product = new Poly();
            quotient = new Poly();
            dividend = new Poly();
            left = new Poly();
            right = new Poly();
            leftFactor = new Poly();
            rightFactor = new Poly();
        }

        int inverseOf(int value) {
            for (int k = 1; k < state.prime; k++) {
                if (state.reduced(k * value) == 1) {
                    return k;
                }
            }
            return 0;
        }

        void scale(Poly number, int factor) {
            number.addMultiple(factor - 1, number, 0, state.prime);
        }

        void multiply(Poly to, Poly one, Poly other) {
            product.clear();
            for (int k = 0; k <= one.degree; k++) {
                product.addMultiple(one.at(k), other, k, state.prime);
            }
            to.copy(product);
        }

        /** Leaves the rest of the first one; the three are different objects, and the divisor is not 0. */
        void divide(Poly rest, Poly divisor, Poly result) {
            result.clear();
            int inverse = inverseOf(divisor.at(divisor.degree));
            if (inverse == 0) {
                return;
            }
            for (int shift = rest.degree - divisor.degree; shift >= 0; shift--) {
                int factor = state.reduced(rest.at(shift + divisor.degree) * inverse);
                rest.addMultiple(-factor, divisor, shift, state.prime);
                result.set(shift, factor);
            }
        }

        void reduce(Poly number, Poly by) {
            divide(number, by, quotient);
        }

        void divideWhole(Poly to, Poly number, Poly by) {
            dividend.copy(number);
            divide(dividend, by, quotient);
            to.copy(quotient);
        }

        /** The greatest common factor, monic; 0 if both are 0. */
        void commonFactor(Poly to, Poly one, Poly other) {
            left.copy(one);
            right.copy(other);
            Poly upper = left;
            Poly lower = right;
            for (int step = 0; step <= Poly.ROOM && lower.degree >= 0; step++) {
                divide(upper, lower, quotient);
                Poly rest = upper;
                upper = lower;
                lower = rest;
            }
            to.copy(upper);
            scale(to, inverseOf(to.at(to.degree)));
        }

        /** The inverse of a number, by a polynomial with which it has no common factor; 0 by the polynomial 1. */
        void invert(Poly to, Poly number, Poly by) {
            left.copy(by);
            right.copy(number);
            leftFactor.clear();
            rightFactor.becomeConstant(1);
            Poly upper = left;
            Poly lower = right;
            Poly upperFactor = leftFactor;
            Poly lowerFactor = rightFactor;
            for (int step = 0; step <= Poly.ROOM && lower.degree >= 0; step++) {
                divide(upper, lower, quotient);
                multiply(quotient, quotient, lowerFactor);
                upperFactor.addMultiple(-1, quotient, 0, state.prime);
                Poly rest = upper;
                upper = lower;
                lower = rest;
                Poly restFactor = upperFactor;
                upperFactor = lowerFactor;
                lowerFactor = restFactor;
            }
            to.copy(upperFactor);
            scale(to, inverseOf(upper.at(0)));
        }

        boolean hasSquare(Poly polynomial) {
            right.clear();
            for (int k = 1; k <= polynomial.degree; k++) {
                right.set(k - 1, state.reduced(k * polynomial.at(k)));
            }
            // Over a prime a square divides the polynomial just if it has a factor in common with its derivative.
            commonFactor(dividend, polynomial, right);
            return dividend.degree > 0;
        }
    }

    /** Reckons with numbers modulo the modulus. */
    private static final class Ring {
        // More than the greatest exponent has prime factors.
        private static final int MOST_PRIME_FACTORS = 31;

        private final State state;
        private final Field field;
        private final Poly quotient;
        private final Poly square;
        private final Poly common;
        private final Poly cofactor;
        private final Poly inverse;
        private final Poly work;
        private final Poly vector;
        private final Poly relation;
        private final Poly[] rows;
        private final Poly[] relations;

        Ring(State state, Field field) {
            this.state = state;
            this.field = field;
            quotient = new Poly();
            square = new Poly();
            common = new Poly();
            cofactor = new Poly();
            inverse = new Poly();
            work = new Poly();
            vector = new Poly();
            relation = new Poly();
            rows = new Poly[MOST_DEGREE];
            relations = new Poly[MOST_DEGREE];
            for (int k = 0; k < MOST_DEGREE; k++) {
                rows[k] = new Poly();
                relations[k] = new Poly();
            }
        }

        void becomeVariable(Poly to) {
            to.becomeVariable();
            field.reduce(to, state.modulus);
        }

        void add(Poly to, Poly number, boolean minus) {
            to.addMultiple(minus ? -1 : 1, number, 0, state.prime);
        }

        void multiply(Poly to, Poly one, Poly other) {
            field.multiply(to, one, other);
            field.divide(to, state.modulus, quotient);
        }

        void raise(Poly to, Poly number, int exponent) {
            square.copy(number);
            to.becomeConstant(1);
            for (int left = exponent; left > 0; left >>= 1) {
                if ((left & 1) == 1) {
                    multiply(to, to, square);
                }
                if (left > 1) {
                    multiply(square, square, square);
                }
            }
        }

        /** The quotient, which is the same however the branches are parted. */
        void divide(Poly to, Poly dividend, Poly divisor) {
            field.commonFactor(common, state.modulus, divisor);
            field.divideWhole(cofactor, state.modulus, common);
            // The common factor, divided out again, makes the quotient nothing where the divisor is nothing.
            field.multiply(work, common, divisor);
            field.reduce(work, cofactor);
            field.invert(inverse, work, cofactor);
            multiply(work, common, inverse);
            multiply(to, dividend, work);
        }

        void unitOf(Poly to, Poly branch) {
            field.divideWhole(to, state.modulus, branch);
            divide(to, to, to);
        }

        void putTogether(Poly to, Poly inside, Poly branch, Poly outside) {
            vector.copy(inside);
            add(vector, outside, true);
            unitOf(to, branch);
            multiply(to, to, vector);
            add(to, outside, false);
        }

        int traceOf(Poly number) {
            work.copy(number);
            vector.becomeVariable();
            int sum = 0;
            for (int k = 0; k < state.modulus.degree; k++) {
                sum += work.at(k);
                multiply(work, work, vector);
            }
            return state.reduced(sum);
        }

        /** Takes powers of the number until one of them depends on those before it. */
        void findLeastPolynomial(Poly to, Poly number) {
            for (int k = 0; k < MOST_DEGREE; k++) {
                rows[k].clear();
            }
            work.becomeConstant(1);
            for (int exponent = 0; exponent <= state.modulus.degree; exponent++) {
                vector.copy(work);
                relation.clear();
                relation.set(exponent, 1);
                reduceByRows();
                int pivot = vector.degree;
                if (pivot < 0 || pivot >= MOST_DEGREE) {
                    break;
                }
                rows[pivot].copy(vector);
                relations[pivot].copy(relation);
                multiply(work, work, number);
            }
            to.copy(relation);
        }

        private void reduceByRows() {
            for (int k = MOST_DEGREE - 1; k >= 0; k--) {
                int inverseOfPivot = field.inverseOf(rows[k].at(k));
                int factor = -vector.at(k) * inverseOfPivot;
                if (factor != 0) {
                    vector.addMultiple(factor, rows[k], 0, state.prime);
                    relation.addMultiple(factor, relations[k], 0, state.prime);
                }
            }
        }

        /** The least exponent that gives 1, which divides the one that is known to give 1. */
        int leastExponent(Poly number, int known) {
            int least = known;
            int left = known;
            for (int divisor = 2; divisor <= known && left > 1; divisor++) {
                // What is left has no lesser divisor, so it is a prime itself if its root is exceeded.
                int prime = divisor > left / divisor ? left : divisor;
                for (int k = 0; k < MOST_PRIME_FACTORS && left % prime == 0; k++) {
                    left /= prime;
                    raise(work, number, least / prime);
                    if (work.isOne()) {
                        least /= prime;
                    }
                }
            }
            return least;
        }
    }

    /** The products of the irreducible factors of the modulus, by their degrees. */
    private static final class Degrees {
        private static final int MOST_STEPS = 64;

        private final State state;
        private final Field field;
        private final Ring ring;
        final Poly[] products;
        private final Poly rest;
        private final Poly raised;
        private final Poly difference;
        private final Poly variable;

        Degrees(State state, Field field, Ring ring) {
            this.state = state;
            this.field = field;
            this.ring = ring;
            products = new Poly[MOST_DEGREE + 1];
            for (int k = 0; k <= MOST_DEGREE; k++) {
                products[k] = new Poly();
            }
            rest = new Poly();
            raised = new Poly();
            difference = new Poly();
            variable = new Poly();
        }

        void find() {
            rest.copy(state.modulus);
            variable.becomeVariable();
            ring.becomeVariable(raised);
            for (int degree = 1; degree <= MOST_DEGREE; degree++) {
                // x to the power p^degree, less x, is the product of all irreducible ones whose degree divides it.
                ring.raise(raised, raised, state.prime);
                difference.copy(raised);
                ring.add(difference, variable, true);
                field.commonFactor(products[degree], rest, difference);
                field.divideWhole(rest, rest, products[degree]);
            }
        }

        int factorsOf(int degree) {
            return degree < 1 || degree > MOST_DEGREE ? 0 : products[degree].degree / degree;
        }

        int allFactors() {
            int all = 0;
            for (int degree = 1; degree <= MOST_DEGREE; degree++) {
                all += factorsOf(degree);
            }
            return all;
        }

        /** An exponent with which each number that can be inverted gives 1. */
        int commonExponent() {
            int exponent = 1;
            int size = 1;
            for (int degree = 1; degree <= MOST_DEGREE; degree++) {
                size *= state.prime;
                if (factorsOf(degree) > 0) {
                    exponent = leastMultiple(exponent, size - 1);
                }
            }
            return exponent;
        }

        private static int leastMultiple(int one, int other) {
            int upper = one;
            int lower = other;
            for (int step = 0; step < MOST_STEPS && lower > 0; step++) {
                int left = upper % lower;
                upper = lower;
                lower = left;
            }
            return upper > 0 ? one / upper * other : one;
        }
    }

    /** Parts and joins the branches of a state. */
    private static final class Branching {
        private final State state;
        private final Field field;
        private final Poly common;
        private final Poly rest;
        private final Poly nothings;
        private final Poly others;

        Branching(State state, Field field) {
            this.state = state;
            this.field = field;
            common = new Poly();
            rest = new Poly();
            nothings = new Poly();
            others = new Poly();
        }

        int kindIn(Poly branch, Poly number) {
            field.commonFactor(common, branch, number);
            if (common.degree == branch.degree) {
                return NOTHING;
            }
            return common.degree == 0 ? INVERTIBLE : MIXED;
        }

        int countOfKind(Poly number, int kind) {
            int found = 0;
            for (int k = 0; k < state.branchCount; k++) {
                if (kindIn(state.branches[k], number) == kind) {
                    found++;
                }
            }
            return found;
        }

        int countDifferent(Poly one, Poly other) {
            rest.copy(one);
            rest.addMultiple(-1, other, 0, state.prime);
            return state.branchCount - countOfKind(rest, NOTHING);
        }

        void partBy(Poly number) {
            int before = state.branchCount;
            for (int k = 0; k < before; k++) {
                Poly branch = state.branches[k];
                field.commonFactor(common, branch, number);
                if (common.degree > 0 && common.degree < branch.degree) {
                    field.divideWhole(rest, branch, common);
                    branch.copy(common);
                    state.addBranch(rest);
                }
            }
            state.sortBranches();
        }

        /** Both numbers are those of branches. */
        int joinTwo(int one, int other) {
            field.multiply(others, state.branches[one], state.branches[other]);
            state.branches[one].copy(others);
            state.branches[other].copy(state.branches[state.branchCount - 1]);
            state.branchCount--;
            state.sortBranches();
            return findBranch(others);
        }

        void joinByKind(Poly number) {
            nothings.becomeConstant(1);
            others.becomeConstant(1);
            for (int k = 0; k < state.branchCount; k++) {
                Poly to = kindIn(state.branches[k], number) == NOTHING ? nothings : others;
                field.multiply(to, to, state.branches[k]);
            }
            state.branchCount = 0;
            if (nothings.degree > 0) {
                state.addBranch(nothings);
            }
            if (others.degree > 0) {
                state.addBranch(others);
            }
            state.sortBranches();
        }

        private int findBranch(Poly branch) {
            for (int k = 0; k < state.branchCount; k++) {
                if (state.branches[k].sameAs(branch)) {
                    return k;
                }
            }
            return UNKNOWN;
        }
    }

    /** Reckons an expression without a fault, with a sum and a product begun for each open parenthesis. */
    private static final class Reckoner {
        private static final int LEVELS = Text.MOST_OPEN + 1;

        private final State state;
        private final Text text;
        private final Ring ring;
        private final Branching branching;
        private final Poly[] sums;
        private final Poly[] products;
        private final boolean[] minus;
        private final boolean[] over;
        private final Poly factor;
        private int level;

        Reckoner(State state, Text text, Ring ring, Branching branching) {
            this.state = state;
            this.text = text;
            this.ring = ring;
            this.branching = branching;
            sums = new Poly[LEVELS];
            products = new Poly[LEVELS];
            for (int k = 0; k < LEVELS; k++) {
                sums[k] = new Poly();
                products[k] = new Poly();
            }
            minus = new boolean[LEVELS];
            over = new boolean[LEVELS];
            factor = new Poly();
            level = 0;
        }

        void reckon(Poly to) {
            level = 0;
            startSum();
            for (int place = Text.EXPRESSION_FROM; place < text.length; place++) {
                int character = text.at(place);
                switch (character) {
                    case '(':
                        level = Math.min(level + 1, LEVELS - 1);
                        startSum();
                        break;
                    case ')':
                        endFactor();
                        endProduct();
                        factor.copy(sums[level]);
                        level = Math.max(level - 1, 0);
                        break;
                    case '+':
                    case '-':
                        endFactor();
                        endProduct();
                        minus[level] = character == '-';
                        break;
                    case '*':
                    case '/':
                        endFactor();
                        over[level] = character == '/';
                        break;
                    case '^':
                        break;
                    default:
                        takeSimpleOrExponent(character, text.at(place - 1) == '^');
                        break;
                }
            }
            endFactor();
            endProduct();
            to.copy(sums[level]);
        }

        private void startSum() {
            sums[level].clear();
            minus[level] = false;
            startProduct();
        }

        private void startProduct() {
            products[level].becomeConstant(1);
            over[level] = false;
        }

        private void endFactor() {
            Poly product = products[level];
            if (over[level]) {
                branching.partBy(factor);
                ring.divide(product, product, factor);
            } else {
                ring.multiply(product, product, factor);
            }
        }

        private void endProduct() {
            ring.add(sums[level], products[level], minus[level]);
            startProduct();
        }

        private void takeSimpleOrExponent(int character, boolean exponent) {
            if (exponent) {
                ring.raise(factor, factor, character - '0');
            } else if (character == 'x') {
                ring.becomeVariable(factor);
            } else if (Text.isRegisterLetter(character)) {
                factor.copy(state.registers[character - 'a']);
            } else {
                factor.becomeConstant(state.reduced(character - '0'));
            }
        }
    }
}
