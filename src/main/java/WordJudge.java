import java.util.Arrays;

/** Verifies the CODE of a small register machine and runs it. Capital words are the document's terms. */
public final class WordJudge {
    private static final int MOST_WORDS = 1024;
    private static final int MOST_CONTEXT = 256;
    private static final int STACK_OCTETS = 512;
    private static final int REGISTERS = 11;
    private static final int FRAME = 10;
    // D and S have four bits each: rows of sixteen hold every register that a WORD can name.
    private static final int REGISTER_ROW = 16;

    private static final int NONE = 0;
    private static final int NUMBER = 1;
    private static final int CONTEXT = 2;
    private static final int STACK = 3;

    private static final int TELL_KIND = 0;
    private static final int TELL_LOW = 1;
    private static final int TELL_HIGH = 2;

    private static final long LEAST = 1L << 63;
    private static final long GREATEST = ~LEAST;
    private static final long LOW_32 = (1L << 32) - 1;
    private static final long FARTHEST = 100000;

    // Sorts of WORDS.
    private static final int UNKNOWN = 0;
    private static final int ARITHMETIC = 1;
    private static final int CONDITION = 2;
    private static final int READING = 3;
    private static final int STORING_IMM = 4;
    private static final int STORING_REGISTER = 5;
    private static final int GO = 6;
    private static final int WIDE = 7;
    private static final int EXIT = 8;

    // OP >> 4 of what reckons.
    private static final int ADD = 0;
    private static final int SUBTRACT = 1;
    private static final int MULTIPLY = 2;
    private static final int DIVIDE = 3;
    private static final int OR = 4;
    private static final int AND = 5;
    private static final int LEFT = 6;
    private static final int RIGHT = 7;
    private static final int NEGATE = 8;
    private static final int REMAINDER = 9;
    private static final int EXCLUSIVE_OR = 10;
    private static final int MOVE = 11;
    private static final int RIGHT_SIGNED = 12;
    private static final int TURN = 13;

    // OP >> 4 of conditions: above and below are without sign, greater and less with sign.
    private static final int EQUAL = 1;
    private static final int ABOVE = 2;
    private static final int ABOVE_OR_EQUAL = 3;
    private static final int COMMON_BITS = 4;
    private static final int UNEQUAL = 5;
    private static final int GREATER = 6;
    private static final int GREATER_OR_EQUAL = 7;
    private static final int BELOW = 10;
    private static final int BELOW_OR_EQUAL = 11;
    private static final int LESS = 12;
    private static final int LESS_OR_EQUAL = 13;

    private static final int NO_FAULT = 0;
    private static final int UNKNOWN_OP = 1;
    private static final int WRONG_REGISTER = 2;
    private static final int UNUSED_NOT_ZERO = 3;
    private static final int WRONG_GOAL = 4;
    private static final int GOES_BACK = 5;
    private static final int USES_NONE = 6;
    private static final int WRONG_POINTER_USE = 7;
    private static final int POINTER_COMPARED = 8;
    private static final int NO_POINTER = 9;
    private static final int STORES_TO_CONTEXT = 10;
    private static final int OUT_OF_BOUNDS = 11;
    private static final int READS_NOT_SET = 12;
    private static final int POINTER_IN_PARTS = 13;
    private static final int EXIT_WITHOUT_NUMBER = 14;

    private final Code code;
    private final Given given;
    private final Form form;
    private final Judge judge;
    private final Machine machine;
    private boolean verified;
    private int faultAt;

    public WordJudge() {
        code = new Code();
        given = new Given();
        form = new Form();
        judge = new Judge();
        machine = new Machine();
        verified = false;
        faultAt = -1;
    }

    public int word(int k, long w) throws IndexOutOfBoundsException {
        if (k < 0 || k > code.length || k >= MOST_WORDS) {
            throw new IndexOutOfBoundsException("no such word");
        }
        code.replace(k, w);
        verified = false;
        return code.length;
    }

    public void cut(int n) throws IndexOutOfBoundsException {
        if (n < 0 || n > code.length) {
            throw new IndexOutOfBoundsException("there are not so many words");
        }
        code.length = n;
        verified = false;
    }

    public void context(int n) throws IllegalArgumentException {
        if (n < 0 || n > MOST_CONTEXT) {
            throw new IllegalArgumentException("the context has 0 to 256 octets");
        }
        if (n != given.length) {
            given.resize(n);
            verified = false;
        }
    }

    public void put(int k, long v) throws IndexOutOfBoundsException {
        if (k < 0 || k >= given.length) {
            throw new IndexOutOfBoundsException("no such octet of the context");
        }
        given.place(k, v);
    }

    public int verify() throws IllegalStateException {
        if (code.length == 0) {
            throw new IllegalStateException("there are no words");
        }
        int found = form.examine(code);
        faultAt = form.faultAt;
        if (found == NO_FAULT) {
            found = judge.examine(code, given.length);
            faultAt = judge.faultAt;
        }
        verified = found == NO_FAULT;
        return found;
    }

    public int fault() {
        return faultAt;
    }

    public long state(int k, int r, int what)
            throws IllegalArgumentException, IllegalStateException, IndexOutOfBoundsException {
        if (what < TELL_KIND || what > TELL_HIGH || r < 0 || r >= REGISTERS) {
            throw new IllegalArgumentException("no such register, or nothing that is told of it");
        }
        if (!verified) {
            throw new IllegalStateException("the code is not verified");
        }
        if (!judge.isComeTo(k)) {
            throw new IndexOutOfBoundsException("nothing comes to such a word");
        }
        return judge.tell(k, r, what);
    }

    public long run() throws IllegalStateException {
        if (!verified) {
            throw new IllegalStateException("the code is not verified");
        }
        return machine.execute(code, given);
    }

    public int count(int what) throws IllegalArgumentException {
        switch (what) {
            case 0:
                return code.length;
            case 1:
                return given.length;
            case 2:
                return machine.steps;
            case 3:
                return verified ? judge.comeTo : 0;
            case 4:
                return machine.strayRuns;
            default:
                throw new IllegalArgumentException("nothing is counted under this number");
        }
    }

    /** The WORDS. */
    private static final class Code {
        private final long[] words = new long[MOST_WORDS];
        private int length;

        long at(int k) {
            return k >= 0 && k < length && k < MOST_WORDS ? words[k] : 0;
        }

        void replace(int k, long w) {
            if (k >= 0 && k <= length && k < MOST_WORDS) {
                words[k] = w;
                length = Math.max(length, k + 1);
            }
        }
    }

    /** The CONTEXT. */
    private static final class Given {
        private final byte[] octets = new byte[MOST_CONTEXT];
        private int length;

        /** Octets that go are zeroed at once, so that those that come later need not be. */
        void resize(int n) {
            for (int k = Math.max(n, 0); k < length && k < MOST_CONTEXT; k++) {
                octets[k] = 0;
            }
            length = n;
        }

        void place(int first, long v) {
            for (int i = 0; i < 8; i++) {
                if (has((long) first + i)) {
                    octets[first + i] = (byte) (v >>> (8 * i));
                }
            }
        }

        boolean has(long k) {
            return k >= 0 && k < length && k < MOST_CONTEXT;
        }

        int octet(long k) {
            return has(k) ? octets[(int) k] & 255 : 0;
        }
    }

    /** A WORD taken apart. It is made once and taken anew for each WORD that is looked at. */
    private static final class Word {
        private int op;
        private int d;
        private int s;
        private int off;
        private int imm;
        private int sort;
        // OP >> 4: which reckoning or which relation.
        private int kind;

        void take(long w) {
            op = (int) w & 255;
            d = (int) (w >>> 8) & 15;
            s = (int) (w >>> 12) & 15;
            off = (short) (w >>> 16);
            imm = (int) (w >>> 32);
            kind = op >> 4;
            sort = findSort();
        }

        private int findSort() {
            switch (op & 7) {
                case 0:
                    return op == 0x18 ? WIDE : UNKNOWN;
                case 1:
                    return movesOctets() ? READING : UNKNOWN;
                case 2:
                    return movesOctets() ? STORING_IMM : UNKNOWN;
                case 3:
                    return movesOctets() ? STORING_REGISTER : UNKNOWN;
                case 4:
                case 7:
                    return reckons() ? ARITHMETIC : UNKNOWN;
                default:
                    return findSortOfGoing();
            }
        }

        private boolean movesOctets() {
            return kind == 6 || kind == 7;
        }

        private boolean reckons() {
            if (kind == NEGATE) {
                return (op & 8) == 0;
            }
            if (kind == TURN) {
                return (op & 7) == 4 && (imm == 16 || imm == 32 || imm == 64);
            }
            return kind <= RIGHT_SIGNED;
        }

        private int findSortOfGoing() {
            if (op == 0x05) {
                return GO;
            }
            if (op == 0x95) {
                return EXIT;
            }
            boolean compares = kind >= EQUAL && kind <= GREATER_OR_EQUAL || kind >= BELOW && kind <= LESS_OR_EQUAL;
            return compares ? CONDITION : UNKNOWN;
        }

        boolean goes() {
            return sort == GO || sort == CONDITION;
        }

        boolean stores() {
            return sort == STORING_IMM || sort == STORING_REGISTER;
        }

        /** If arithmetic takes and tells 32 bits; 13 has sizes of its own. */
        boolean isOf32() {
            return (op & 7) == 4 && kind != TURN;
        }

        /** If OP & 8 chooses S; in 13 it turns the octets around. */
        boolean hasRegisterOperand() {
            return (op & 8) != 0 && (sort == CONDITION || sort == ARITHMETIC && kind != TURN);
        }

        boolean usesD() {
            return sort != GO && sort != EXIT;
        }

        boolean usesOldD() {
            return stores() || sort == CONDITION || sort == ARITHMETIC && kind != MOVE;
        }

        boolean getsD() {
            return sort == ARITHMETIC || sort == READING || sort == WIDE;
        }

        boolean usesS() {
            return sort == READING || sort == STORING_REGISTER || hasRegisterOperand();
        }

        boolean usesOff() {
            return sort != ARITHMETIC && sort != WIDE && sort != EXIT;
        }

        /** The document's list leaves the IMM of 0 - free. */
        boolean usesImm() {
            return !usesS() && sort != GO && sort != EXIT;
        }

        /** How many octets are read or stored. */
        int size() {
            switch (op & 0x18) {
                case 0:
                    return 4;
                case 8:
                    return 2;
                case 16:
                    return 1;
                default:
                    return 8;
            }
        }

        /** How many WORDS it takes. */
        int words() {
            return sort == WIDE ? 2 : 1;
        }

        /** The WORD that is gone to if it goes. */
        int goalFrom(int k) {
            return k + 1 + off;
        }

        /** The relation that holds where that of a condition does not; 4 stays as it is, as it narrows nothing. */
        int opposite() {
            switch (kind) {
                case EQUAL:
                    return UNEQUAL;
                case UNEQUAL:
                    return EQUAL;
                case ABOVE:
                    return BELOW_OR_EQUAL;
                case BELOW_OR_EQUAL:
                    return ABOVE;
                case ABOVE_OR_EQUAL:
                    return BELOW;
                case BELOW:
                    return ABOVE_OR_EQUAL;
                case GREATER:
                    return LESS_OR_EQUAL;
                case LESS_OR_EQUAL:
                    return GREATER;
                case GREATER_OR_EQUAL:
                    return LESS;
                case LESS:
                    return GREATER_OR_EQUAL;
                default:
                    return kind;
            }
        }

        /** What 0x18 gives with the WORD behind it. */
        long wideNumber(long behind) {
            return behind >>> 32 << 32 | imm & LOW_32;
        }
    }

    /** What the MACHINE tells of numbers. */
    private static final class Arithmetic {
        static long reckon(int op, long d, long operand) {
            boolean of32 = (op & 7) == 4 && op >> 4 != TURN;
            long a = of32 ? d & LOW_32 : d;
            long c = of32 ? operand & LOW_32 : operand;
            long told = reckonTaken(op, a, c);
            return of32 ? told & LOW_32 : told;
        }

        private static long reckonTaken(int op, long a, long c) {
            int shift = (int) c & ((op & 7) == 4 ? 31 : 63);
            switch (op >> 4) {
                case ADD:
                    return a + c;
                case SUBTRACT:
                    return a - c;
                case MULTIPLY:
                    return a * c;
                case DIVIDE:
                    return quotient(a, c);
                case OR:
                    return a | c;
                case AND:
                    return a & c;
                case LEFT:
                    return a << shift;
                case RIGHT:
                    return a >>> shift;
                case NEGATE:
                    return -a;
                case REMAINDER:
                    return a - quotient(a, c) * c;
                case EXCLUSIVE_OR:
                    return a ^ c;
                case RIGHT_SIGNED:
                    return (op & 7) == 4 ? (int) a >> shift : a >> shift;
                case TURN:
                    return (op & 8) == 0 ? lowest(a, c) : turned(a, c);
                default:
                    return c;
            }
        }

        /** Without sign; 0 by 0, so that what is left over by 0 is all. */
        private static long quotient(long number, long by) {
            if (by == 0) {
                return 0;
            }
            if (by < 0) {
                return number < 0 && number >= by ? 1 : 0;
            }
            // Half of the number has no sign bit; what the halving lost is worth at most one more.
            long near = (number >>> 1) / by << 1;
            long rest = number - near * by;
            return rest < 0 || rest >= by ? near + 1 : near;
        }

        private static boolean isBelow(long a, long b) {
            return (a ^ LEAST) < (b ^ LEAST);
        }

        private static long lowest(long d, long bits) {
            return bits == 64 ? d : d & (1L << bits) - 1;
        }

        private static long turned(long d, long bits) {
            long told = 0;
            for (int i = 0; i < 64 && i < bits; i += 8) {
                told = told << 8 | d >>> i & 255;
            }
            return told;
        }

        /** If the condition holds. The sign of 32 bits carried on keeps both orders, with sign and without. */
        static boolean holds(int op, long d, long operand) {
            boolean of32 = (op & 7) == 6;
            return isRelated(op >> 4, of32 ? (int) d : d, of32 ? (int) operand : operand);
        }

        private static boolean isRelated(int relation, long a, long c) {
            switch (relation) {
                case EQUAL:
                    return a == c;
                case UNEQUAL:
                    return a != c;
                case COMMON_BITS:
                    return (a & c) != 0;
                case ABOVE:
                    return isBelow(c, a);
                case ABOVE_OR_EQUAL:
                    return !isBelow(a, c);
                case BELOW:
                    return isBelow(a, c);
                case BELOW_OR_EQUAL:
                    return !isBelow(c, a);
                case GREATER:
                    return a > c;
                case GREATER_OR_EQUAL:
                    return a >= c;
                case LESS:
                    return a < c;
                default:
                    return a <= c;
            }
        }
    }

    /** What a register, or a KEPT eight of the STACK, can have. It is made once and then changed. */
    private static final class Value {
        private int kind;
        private long low;
        private long high;

        void become(int newKind, long newLow, long newHigh) {
            kind = newKind;
            low = newLow;
            high = newHigh;
        }

        void becomeAny() {
            kind = NUMBER;
            low = LEAST;
            high = GREATEST;
        }

        boolean isPointer() {
            return kind == CONTEXT || kind == STACK;
        }

        boolean isOne() {
            return low == high;
        }

        boolean isWithin(long least, long greatest) {
            return low >= least && high <= greatest;
        }

        /** Takes out the numbers that are not in relation to k; if any is left. */
        boolean narrow(int relation, long k) {
            switch (relation) {
                case EQUAL:
                    low = Math.max(low, k);
                    high = Math.min(high, k);
                    break;
                case UNEQUAL:
                    return leaveOut(k);
                case ABOVE:
                case ABOVE_OR_EQUAL:
                    // Numbers below 0 are above all others without sign, so a low below 0 stays.
                    return low < 0 || k < 0 || narrowSigned(relation == ABOVE ? GREATER : GREATER_OR_EQUAL, k);
                case BELOW:
                case BELOW_OR_EQUAL:
                    if (k < 0) {
                        return true;
                    }
                    low = Math.max(low, 0);
                    return narrowSigned(relation == BELOW ? LESS : LESS_OR_EQUAL, k);
                default:
                    return narrowSigned(relation, k);
            }
            return low <= high;
        }

        private boolean leaveOut(long k) {
            // One number alone comes first: k + 1 and k - 1 cannot wrap behind it.
            if (low == high) {
                return low != k;
            }
            if (low == k) {
                low = k + 1;
            } else if (high == k) {
                high = k - 1;
            }
            return true;
        }

        private boolean narrowSigned(int relation, long k) {
            if (relation == LESS && k == LEAST || relation == GREATER && k == GREATEST) {
                return false;
            }
            switch (relation) {
                case LESS:
                    high = Math.min(high, k - 1);
                    break;
                case LESS_OR_EQUAL:
                    high = Math.min(high, k);
                    break;
                case GREATER:
                    low = Math.max(low, k + 1);
                    break;
                case GREATER_OR_EQUAL:
                    low = Math.max(low, k);
                    break;
                default:
                    break;
            }
            return low <= high;
        }
    }

    /** What arithmetic makes of NUMBERS: d gets it. */
    private static final class Numbers {
        static void reckon(Word word, Value d, Value operand) {
            if (word.isOf32()) {
                takeLowest32(d);
                takeLowest32(operand);
            }
            if (d.isOne() && operand.isOne()) {
                long told = Arithmetic.reckon(word.op, d.low, operand.low);
                d.become(NUMBER, told, told);
                return;
            }
            reckonSpans(word, d, operand);
            if (word.isOf32() && !d.isWithin(0, LOW_32)) {
                d.become(NUMBER, 0, LOW_32);
            }
        }

        static void takeLowest32(Value v) {
            if (v.isOne()) {
                v.become(NUMBER, v.low & LOW_32, v.low & LOW_32);
            } else if (!v.isWithin(0, LOW_32)) {
                v.become(NUMBER, 0, LOW_32);
            }
        }

        private static void reckonSpans(Word word, Value d, Value operand) {
            switch (word.kind) {
                case ADD:
                    add(d, operand);
                    break;
                case SUBTRACT:
                    subtract(d, operand);
                    break;
                case MULTIPLY:
                    multiply(d, operand);
                    break;
                case DIVIDE:
                    divide(d, operand);
                    break;
                case REMAINDER:
                    leaveOver(d, operand);
                    break;
                case AND:
                    and(d, operand);
                    break;
                case OR:
                case EXCLUSIVE_OR:
                    or(d, operand);
                    break;
                case LEFT:
                    shiftLeft(word, d, operand);
                    break;
                case RIGHT:
                case RIGHT_SIGNED:
                    shiftRight(word, d, operand);
                    break;
                case NEGATE:
                    negate(d);
                    break;
                default:
                    turn(word, d);
                    break;
            }
        }

        private static void add(Value d, Value by) {
            if (sumFits(d.low, by.low) && sumFits(d.high, by.high)) {
                d.become(NUMBER, d.low + by.low, d.high + by.high);
            } else {
                d.becomeAny();
            }
        }

        private static void subtract(Value d, Value by) {
            if (differenceFits(d.low, by.high) && differenceFits(d.high, by.low)) {
                d.become(NUMBER, d.low - by.high, d.high - by.low);
            } else {
                d.becomeAny();
            }
        }

        private static void multiply(Value d, Value by) {
            if (!productFits(d.low, by.low) || !productFits(d.low, by.high)
                    || !productFits(d.high, by.low) || !productFits(d.high, by.high)) {
                d.becomeAny();
                return;
            }
            long p = d.low * by.low;
            long q = d.low * by.high;
            long r = d.high * by.low;
            long t = d.high * by.high;
            d.become(NUMBER, Math.min(Math.min(p, q), Math.min(r, t)), Math.max(Math.max(p, q), Math.max(r, t)));
        }

        private static void divide(Value d, Value by) {
            if (d.low >= 0 && by.low > 0 && by.high > 0) {
                d.become(NUMBER, d.low / by.high, d.high / by.low);
            } else {
                d.becomeAny();
            }
        }

        private static void leaveOver(Value d, Value by) {
            if (d.low >= 0 && by.low > 0) {
                d.become(NUMBER, 0, Math.min(d.high, by.high - 1));
            } else {
                d.becomeAny();
            }
        }

        private static void and(Value d, Value with) {
            if (d.low >= 0 && with.low >= 0) {
                d.become(NUMBER, 0, Math.min(d.high, with.high));
            } else if (with.low >= 0) {
                d.become(NUMBER, 0, with.high);
            } else if (d.low >= 0) {
                d.become(NUMBER, 0, d.high);
            } else {
                d.becomeAny();
            }
        }

        private static void or(Value d, Value with) {
            if (d.low < 0 || with.low < 0) {
                d.becomeAny();
                return;
            }
            long most = Math.max(d.high, with.high);
            long ones = 0;
            for (int k = 0; k < 63 && ones < most; k++) {
                ones = ones << 1 | 1;
            }
            d.become(NUMBER, 0, ones);
        }

        private static void shiftLeft(Word word, Value d, Value by) {
            int k = (int) by.low & (word.isOf32() ? 31 : 63);
            if (by.isOne() && d.low << k >> k == d.low && d.high << k >> k == d.high) {
                d.become(NUMBER, d.low << k, d.high << k);
            } else {
                d.becomeAny();
            }
        }

        private static void shiftRight(Word word, Value d, Value by) {
            int k = (int) by.low & (word.isOf32() ? 31 : 63);
            boolean keepsOrder = word.kind == RIGHT ? d.low >= 0 : !word.isOf32() || d.high < 1L << 31;
            if (by.isOne() && keepsOrder) {
                d.become(NUMBER, d.low >> k, d.high >> k);
            } else {
                d.becomeAny();
            }
        }

        private static void negate(Value d) {
            if (d.low == LEAST) {
                d.becomeAny();
            } else {
                d.become(NUMBER, -d.high, -d.low);
            }
        }

        private static void turn(Word word, Value d) {
            if (word.imm == 16 || word.imm == 32) {
                d.become(NUMBER, 0, (1L << word.imm) - 1);
            } else {
                d.becomeAny();
            }
        }

        private static boolean sumFits(long a, long b) {
            return ((a ^ (a + b)) & (b ^ (a + b))) >= 0;
        }

        private static boolean differenceFits(long a, long b) {
            return ((a ^ b) & (a ^ (a - b))) >= 0;
        }

        private static boolean productFits(long a, long b) {
            if (a == 0) {
                return true;
            }
            // Dividing by -1 would wrap just as the product did, and so not show it.
            return a == -1 ? b != LEAST : a * b / a == b;
        }
    }

    /** Looks at the FORM of the WORDS. */
    private static final class Form {
        private final boolean[] seconds = new boolean[MOST_WORDS];
        private final Word word = new Word();
        private int faultAt;

        int examine(Code code) {
            faultAt = -1;
            markSeconds(code);
            for (int k = 0; k < code.length && k < MOST_WORDS; k++) {
                if (!seconds[k]) {
                    word.take(code.at(k));
                    int found = examineWord(code, k);
                    if (found != NO_FAULT) {
                        faultAt = k;
                        return found;
                    }
                }
            }
            return NO_FAULT;
        }

        /** Beforehand, as a go stands before the 0x18 whose second WORD may be its goal. */
        private void markSeconds(Code code) {
            boolean second = false;
            for (int k = 0; k < code.length && k < MOST_WORDS; k++) {
                seconds[k] = second;
                word.take(code.at(k));
                second = !second && word.sort == WIDE;
            }
        }

        private int examineWord(Code code, int k) {
            if (word.sort == UNKNOWN) {
                return UNKNOWN_OP;
            }
            if (word.d >= REGISTERS || word.s >= REGISTERS || word.d == FRAME && word.getsD()) {
                return WRONG_REGISTER;
            }
            if (hasUnusedNotZero() || word.sort == WIDE && (code.at(k + 1) & LOW_32) != 0) {
                return UNUSED_NOT_ZERO;
            }
            if (word.goes() && word.off < 0) {
                return GOES_BACK;
            }
            boolean isLast = k + word.words() >= code.length;
            if (word.goes() && !isGoal(code, word.goalFrom(k)) || isLast && word.sort != EXIT) {
                return WRONG_GOAL;
            }
            return NO_FAULT;
        }

        private boolean hasUnusedNotZero() {
            return word.imm != 0 && !word.usesImm() || word.s != 0 && !word.usesS()
                    || word.d != 0 && !word.usesD() || word.off != 0 && !word.usesOff();
        }

        private boolean isGoal(Code code, int k) {
            return k >= 0 && k < code.length && k < MOST_WORDS && !seconds[k];
        }
    }

    /** What is known before a WORD. */
    private static final class State {
        // One rule joins registers and eights, so both are cells of the same rows. An eight of NONE is not KEPT.
        private static final int EIGHTS = STACK_OCTETS / 8;
        private static final int FIRST_EIGHT = REGISTER_ROW;
        private static final int CELLS = FIRST_EIGHT + EIGHTS;
        private static final int ALL_SET = 255;

        private final int[] kinds = new int[CELLS];
        private final long[] lows = new long[CELLS];
        private final long[] highs = new long[CELLS];
        // Of each eight a bit an octet: 1 is SET.
        private final int[] set = new int[EIGHTS];
        private boolean comeTo;

        void begin() {
            Arrays.fill(kinds, NONE);
            Arrays.fill(lows, 0);
            Arrays.fill(highs, 0);
            Arrays.fill(set, 0);
            kinds[1] = CONTEXT;
            kinds[FRAME] = STACK;
        }

        void copy(State other) {
            System.arraycopy(other.kinds, 0, kinds, 0, CELLS);
            System.arraycopy(other.lows, 0, lows, 0, CELLS);
            System.arraycopy(other.highs, 0, highs, 0, CELLS);
            System.arraycopy(other.set, 0, set, 0, EIGHTS);
        }

        void join(State other) {
            for (int eight = 0; eight < EIGHTS; eight++) {
                set[eight] &= other.set[eight];
            }
            for (int cell = 0; cell < CELLS; cell++) {
                joinCell(cell, other);
            }
        }

        private void joinCell(int cell, State other) {
            boolean sameKind = kinds[cell] == other.kinds[cell];
            if (sameKind && (kinds[cell] != STACK || lows[cell] == other.lows[cell])) {
                lows[cell] = Math.min(lows[cell], other.lows[cell]);
                highs[cell] = Math.max(highs[cell], other.highs[cell]);
                return;
            }
            // The octets of a pointer are no number, in whichever way it was KEPT.
            if (cell >= FIRST_EIGHT && (points(cell) || other.points(cell))) {
                set[cell - FIRST_EIGHT] = 0;
            }
            clear(cell);
        }

        private boolean points(int cell) {
            return kinds[cell] == CONTEXT || kinds[cell] == STACK;
        }

        private void clear(int cell) {
            kinds[cell] = NONE;
            lows[cell] = 0;
            highs[cell] = 0;
        }

        void load(int cell, Value v) {
            v.become(kinds[cell], lows[cell], highs[cell]);
        }

        void save(int cell, Value v) {
            kinds[cell] = v.kind;
            lows[cell] = v.low;
            highs[cell] = v.high;
        }

        /** The cell of the eight that starts with this octet, counted from the STACK's first; -1 if none does. */
        int eightAt(int octet) {
            return octet % 8 == 0 && octet >= 0 && octet < STACK_OCTETS ? FIRST_EIGHT + octet / 8 : -1;
        }

        boolean isKept(int cell) {
            return kinds[cell] != NONE;
        }

        /** If octets of the STACK can be read as a number. */
        boolean isReadable(int first, int size) {
            for (int i = first; i < first + size; i++) {
                boolean isSet = i >= 0 && i < STACK_OCTETS && (set[i / 8] >> i % 8 & 1) != 0;
                if (!isSet || points(FIRST_EIGHT + i / 8)) {
                    return false;
                }
            }
            return true;
        }

        /** The eight of a cell is KEPT as v. */
        void keep(int cell, Value v) {
            save(cell, v);
            set[cell - FIRST_EIGHT] = ALL_SET;
        }

        /** Octets of the STACK are stored, but not to be KEPT. */
        void store(int first, int size) {
            for (int i = first; i < first + size; i++) {
                if (i >= 0 && i < STACK_OCTETS) {
                    loseKept(i / 8);
                    set[i / 8] |= 1 << i % 8;
                }
            }
        }

        private void loseKept(int eight) {
            if (points(FIRST_EIGHT + eight)) {
                set[eight] = 0;
            }
            clear(FIRST_EIGHT + eight);
        }
    }

    /** Verifies what has the right FORM: reckons the STATES of the WORDS. */
    private static final class Judge {
        // Made where a WORD is come to for the first time, and used again by each later verify.
        private final State[] before = new State[MOST_WORDS];
        private final State now = new State();
        private final Word word = new Word();
        private final Value left = new Value();
        private final Value right = new Value();
        private final Value narrowed = new Value();
        private int length;
        private int contextLength;
        private int comeTo;
        private int faultAt;

        boolean isComeTo(int k) {
            return k >= 0 && k < length && k < MOST_WORDS && before[k] != null && before[k].comeTo;
        }

        long tell(int k, int r, int what) {
            if (!isComeTo(k) || r < 0 || r >= REGISTERS) {
                return 0;
            }
            before[k].load(r, left);
            if (what == TELL_KIND) {
                return left.kind;
            }
            return what == TELL_LOW ? left.low : left.high;
        }

        int examine(Code code, int lengthOfContext) {
            begin(code.length, lengthOfContext);
            for (int k = 0; k < length; k++) {
                if (isComeTo(k)) {
                    comeTo++;
                    now.copy(before[k]);
                    word.take(code.at(k));
                    int found = examineWord(k, code.at(k + 1));
                    if (found != NO_FAULT) {
                        faultAt = k;
                        return found;
                    }
                }
            }
            return NO_FAULT;
        }

        private void begin(int lengthOfCode, int lengthOfContext) {
            length = lengthOfCode;
            contextLength = lengthOfContext;
            comeTo = 0;
            faultAt = -1;
            for (int k = 0; k < MOST_WORDS; k++) {
                if (before[k] != null) {
                    before[k].comeTo = false;
                }
            }
            now.begin();
            flowTo(0);
        }

        /** What is known now comes to WORD k. */
        private void flowTo(int k) {
            if (k < 0 || k >= MOST_WORDS) {
                return;
            }
            if (before[k] == null) {
                before[k] = new State();
            }
            if (before[k].comeTo) {
                before[k].join(now);
            } else {
                before[k].copy(now);
                before[k].comeTo = true;
            }
        }

        private int examineWord(int k, long behind) {
            now.load(word.d, left);
            loadRight();
            if (word.usesOldD() && left.kind == NONE || word.usesS() && right.kind == NONE) {
                return USES_NONE;
            }
            int found = NO_FAULT;
            switch (word.sort) {
                case CONDITION:
                    return examineCondition(k);
                case EXIT:
                    now.load(0, left);
                    return left.kind == NUMBER ? NO_FAULT : EXIT_WITHOUT_NUMBER;
                case ARITHMETIC:
                    found = examineArithmetic();
                    break;
                case READING:
                    found = examineReading();
                    break;
                case STORING_IMM:
                case STORING_REGISTER:
                    found = examineStoring();
                    break;
                case WIDE:
                    left.become(NUMBER, word.wideNumber(behind), word.wideNumber(behind));
                    break;
                default:
                    break;
            }
            if (found == NO_FAULT) {
                goOn(k);
            }
            return found;
        }

        /** The one way behind a WORD that is no condition; left is what D gets, if it gets something. */
        private void goOn(int k) {
            if (word.getsD()) {
                now.save(word.d, left);
            }
            flowTo(word.sort == GO ? word.goalFrom(k) : k + word.words());
        }

        /** Whatever S or IMM stands for: an operand, where is read, what is stored. */
        private void loadRight() {
            if (word.usesS()) {
                now.load(word.s, right);
            } else {
                right.become(NUMBER, word.imm, word.imm);
            }
        }

        private int examineArithmetic() {
            if (word.kind == MOVE) {
                return move();
            }
            if (left.isPointer() || right.isPointer()) {
                return movePointer();
            }
            Numbers.reckon(word, left, right);
            return NO_FAULT;
        }

        private int move() {
            if (word.isOf32()) {
                if (right.isPointer()) {
                    return WRONG_POINTER_USE;
                }
                Numbers.takeLowest32(right);
            }
            left.become(right.kind, right.low, right.high);
            return NO_FAULT;
        }

        private int movePointer() {
            boolean adds = word.kind == ADD;
            boolean moves = !word.isOf32() && (adds || word.kind == SUBTRACT && left.isPointer());
            if (!moves || left.isPointer() && right.isPointer()) {
                return WRONG_POINTER_USE;
            }
            Value pointer = left.isPointer() ? left : right;
            Value by = left.isPointer() ? right : left;
            // Numbers farther than that lead too far from every offset; nearer ones cannot wrap.
            if (pointer.kind == STACK && !by.isOne() || !by.isWithin(-2 * FARTHEST, 2 * FARTHEST)) {
                return WRONG_POINTER_USE;
            }
            long low = adds ? pointer.low + by.low : pointer.low - by.high;
            long high = adds ? pointer.high + by.high : pointer.high - by.low;
            left.become(pointer.kind, low, high);
            return left.isWithin(-FARTHEST, FARTHEST) ? NO_FAULT : WRONG_POINTER_USE;
        }

        private int examineCondition(int k) {
            if (left.isPointer() || right.isPointer()) {
                return POINTER_COMPARED;
            }
            if (narrowD(word.kind)) {
                flowTo(word.goalFrom(k));
            }
            if (narrowD(word.opposite())) {
                flowTo(k + 1);
            }
            return NO_FAULT;
        }

        /** Leaves in D what the relation lets through, starting from left anew; if a number is left. */
        private boolean narrowD(int relation) {
            narrowed.become(left.kind, left.low, left.high);
            boolean narrows = (word.op & 7) == 5 && relation != COMMON_BITS && right.isOne();
            if (narrows && !narrowed.narrow(relation, right.low)) {
                return false;
            }
            now.save(word.d, narrowed);
            return true;
        }

        /** The FAULT of reading or storing where a pointer and OFF lead. */
        private int examineReach(Value pointer) {
            if (!pointer.isPointer()) {
                return NO_POINTER;
            }
            boolean isContext = pointer.kind == CONTEXT;
            if (isContext && word.stores()) {
                return STORES_TO_CONTEXT;
            }
            long first = isContext ? 0 : -STACK_OCTETS;
            long end = isContext ? contextLength : 0;
            boolean isInside = pointer.low + word.off >= first && pointer.high + word.off + word.size() <= end;
            return isInside ? NO_FAULT : OUT_OF_BOUNDS;
        }

        /** Where a STACK pointer and OFF lead, counted from the STACK's first octet. */
        private int octetAt(Value pointer) {
            return (int) (pointer.low + word.off + STACK_OCTETS);
        }

        private int examineReading() {
            int found = examineReach(right);
            if (found != NO_FAULT) {
                return found;
            }
            int size = word.size();
            if (right.kind == STACK) {
                int first = octetAt(right);
                int eight = size == 8 ? now.eightAt(first) : -1;
                if (eight >= 0 && now.isKept(eight)) {
                    now.load(eight, left);
                    return NO_FAULT;
                }
                if (!now.isReadable(first, size)) {
                    return READS_NOT_SET;
                }
            }
            if (size == 8) {
                left.becomeAny();
            } else {
                left.become(NUMBER, 0, (1L << 8 * size) - 1);
            }
            return NO_FAULT;
        }

        private int examineStoring() {
            int found = examineReach(left);
            if (found != NO_FAULT) {
                return found;
            }
            int first = octetAt(left);
            boolean isWhole = word.sort == STORING_REGISTER && word.size() == 8;
            int eight = isWhole ? now.eightAt(first) : -1;
            if (eight >= 0) {
                now.keep(eight, right);
                return NO_FAULT;
            }
            if (right.isPointer()) {
                return POINTER_IN_PARTS;
            }
            now.store(first, word.size());
            return NO_FAULT;
        }
    }

    /** Runs CODE that was verified. It still looks where a step goes, to count the runs that stray. */
    private static final class Machine {
        // So far apart that no offset that verifying allows leads from one to the other.
        private static final long CONTEXT_START = 1L << 40;
        private static final long STACK_START = 1L << 41;

        private final long[] registers = new long[REGISTER_ROW];
        private final boolean[] registerHas = new boolean[REGISTER_ROW];
        private final byte[] stack = new byte[STACK_OCTETS];
        private final boolean[] stackHas = new boolean[STACK_OCTETS];
        private final Word word = new Word();
        private int steps;
        private int strayRuns;
        private boolean strayed;

        long execute(Code code, Given given) {
            begin();
            int k = 0;
            // Each step goes forward, so there are no more of them than WORDS.
            for (int left = code.length; left > 0; left--) {
                steps++;
                word.take(code.at(k));
                if (word.sort == EXIT) {
                    break;
                }
                k = step(k, code.at(k + 1), given);
            }
            long told = use(0);
            if (strayed) {
                strayRuns++;
            }
            return told;
        }

        private void begin() {
            steps = 0;
            strayed = false;
            for (int r = 0; r < REGISTER_ROW; r++) {
                registers[r] = 0;
                registerHas[r] = false;
            }
            for (int i = 0; i < STACK_OCTETS; i++) {
                stack[i] = 0;
                stackHas[i] = false;
            }
            give(1, CONTEXT_START);
            give(FRAME, STACK_START + STACK_OCTETS);
        }

        /** Answers the WORD that is next. */
        private int step(int k, long behind, Given given) {
            switch (word.sort) {
                case ARITHMETIC:
                    give(word.d, Arithmetic.reckon(word.op, word.usesOldD() ? use(word.d) : 0, useRight()));
                    return k + 1;
                case CONDITION:
                    return Arithmetic.holds(word.op, use(word.d), useRight()) ? word.goalFrom(k) : k + 1;
                case READING:
                    give(word.d, read(useRight() + word.off, word.size(), given));
                    return k + 1;
                case STORING_IMM:
                case STORING_REGISTER:
                    write(use(word.d) + word.off, word.size(), useRight());
                    return k + 1;
                case WIDE:
                    give(word.d, word.wideNumber(behind));
                    return k + 2;
                default:
                    return word.goalFrom(k);
            }
        }

        private long use(int r) {
            if (!registerHas[r]) {
                strayed = true;
            }
            return registers[r];
        }

        private long useRight() {
            return word.usesS() ? use(word.s) : word.imm;
        }

        private void give(int r, long number) {
            registers[r] = number;
            registerHas[r] = true;
        }

        private long read(long address, int size, Given given) {
            long told = 0;
            for (int i = size - 1; i >= 0; i--) {
                told = told << 8 | readOctet(address + i, given);
            }
            return told;
        }

        private int readOctet(long address, Given given) {
            if (given.has(address - CONTEXT_START)) {
                return given.octet(address - CONTEXT_START);
            }
            int i = stackIndex(address);
            if (i >= 0 && stackHas[i]) {
                return stack[i] & 255;
            }
            strayed = true;
            return 0;
        }

        private void write(long address, int size, long number) {
            for (int n = 0; n < size; n++) {
                int i = stackIndex(address + n);
                if (i >= 0) {
                    stack[i] = (byte) (number >>> 8 * n);
                    stackHas[i] = true;
                } else {
                    strayed = true;
                }
            }
        }

        /** -1 if the address is not the STACK's. */
        private int stackIndex(long address) {
            long i = address - STACK_START;
            return i >= 0 && i < STACK_OCTETS ? (int) i : -1;
        }
    }
}
