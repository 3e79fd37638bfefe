import java.math.BigInteger;
import java.util.ArrayList;
import java.util.HashMap;
import java.util.List;
import java.util.Map;

/**
 * The document once more, written another way: whole numbers without a bound, all ways to a WORD joined at once,
 * and a machine whose pointers are no numbers. The tests hold WordJudge against it.
 */
final class Model {
    static final BigInteger MIN = BigInteger.ONE.shiftLeft(63).negate();
    static final BigInteger MAX = BigInteger.ONE.shiftLeft(63).subtract(BigInteger.ONE);
    static final BigInteger MASK32 = BigInteger.ONE.shiftLeft(32).subtract(BigInteger.ONE);
    static final BigInteger MASK64 = BigInteger.ONE.shiftLeft(64).subtract(BigInteger.ONE);

    /** kind: 0 NONE, 1 NUMBER, 2 CONTEXT, 3 STACK. */
    record Val(int kind, BigInteger lo, BigInteger hi) {
        static final Val NONE = new Val(0, BigInteger.ZERO, BigInteger.ZERO);
        static final Val ANY = new Val(1, MIN, MAX);

        static Val num(BigInteger lo, BigInteger hi) {
            return new Val(1, lo, hi);
        }

        static Val num(long v) {
            return num(BigInteger.valueOf(v), BigInteger.valueOf(v));
        }

        boolean ptr() {
            return kind >= 2;
        }

        boolean one() {
            return lo.equals(hi);
        }
    }

    static final class St {
        final Val[] regs = new Val[11];
        final boolean[] set = new boolean[512];
        /** From offsets -512, -504, .. -8. */
        final Map<Integer, Val> kept = new HashMap<>();

        static St first() {
            St st = new St();
            java.util.Arrays.fill(st.regs, Val.NONE);
            st.regs[1] = new Val(2, BigInteger.ZERO, BigInteger.ZERO);
            st.regs[10] = new Val(3, BigInteger.ZERO, BigInteger.ZERO);
            return st;
        }

        St copy() {
            St st = new St();
            System.arraycopy(regs, 0, st.regs, 0, 11);
            System.arraycopy(set, 0, st.set, 0, 512);
            st.kept.putAll(kept);
            return st;
        }
    }

    final long[] words;
    final int context;
    int fault;
    int at = -1;
    St[] states;
    private List<List<St>> ways;

    Model(long[] words, int context) {
        this.words = words;
        this.context = context;
        verify();
    }

    int comeTo() {
        int n = 0;
        if (fault == 0) {
            for (St st : states) {
                n += st == null ? 0 : 1;
            }
        }
        return n;
    }

    // ---- the parts of a WORD

    private int op(int k) {
        return (int) (words[k] & 0xFF);
    }

    private int d(int k) {
        return (int) (words[k] >> 8 & 0xF);
    }

    private int s(int k) {
        return (int) (words[k] >> 12 & 0xF);
    }

    private int off(int k) {
        int o = (int) (words[k] >> 16 & 0xFFFF);
        return o >= 0x8000 ? o - 0x10000 : o;
    }

    private int imm(int k) {
        return (int) (words[k] >> 32);
    }

    private static boolean in(int x, int... list) {
        for (int y : list) {
            if (x == y) {
                return true;
            }
        }
        return false;
    }

    static boolean reads(int op) {
        return in(op, 0x61, 0x69, 0x71, 0x79);
    }

    static boolean storesReg(int op) {
        return in(op, 0x63, 0x6B, 0x73, 0x7B);
    }

    static boolean storesImm(int op) {
        return in(op, 0x62, 0x6A, 0x72, 0x7A);
    }

    static boolean alu(int op) {
        if ((op & 7) == 7) {
            return in(op >> 4, 0, 1, 2, 3, 4, 5, 6, 7, 9, 10, 11, 12) || op == 0x87;
        }
        return (op & 7) == 4 && (in(op >> 4, 0, 1, 2, 3, 4, 5, 6, 7, 9, 10, 11, 12, 13) || op == 0x84);
    }

    static boolean cond(int op) {
        return in(op & 7, 5, 6) && in(op >> 4, 1, 2, 3, 4, 5, 6, 7, 10, 11, 12, 13);
    }

    static int size(int op) {
        return in(op, 0x61, 0x62, 0x63) ? 4 : in(op, 0x69, 0x6A, 0x6B) ? 2 : in(op, 0x71, 0x72, 0x73) ? 1 : 8;
    }

    private static boolean regOperand(int op) {
        return (alu(op) && op >> 4 != 13 || cond(op)) && (op & 8) == 8;
    }

    // ---- FORM

    private boolean[] seconds() {
        boolean[] second = new boolean[words.length];
        for (int k = 0; k < words.length; k++) {
            if (op(k) == 0x18) {
                k++;
                if (k < words.length) {
                    second[k] = true;
                }
            }
        }
        return second;
    }

    private int form(int k, boolean[] second) {
        int op = op(k);
        boolean go = op == 5;
        boolean exit = op == 0x95;
        boolean wide = op == 0x18;
        if (!(alu(op) || cond(op) || reads(op) || storesReg(op) || storesImm(op) || go || exit || wide)) {
            return 1;
        }
        if (alu(op) && op >> 4 == 13 && !in(imm(k), 16, 32, 64)) {
            return 1;
        }
        if (d(k) > 10 || s(k) > 10 || d(k) == 10 && (alu(op) || reads(op) || wide)) {
            return 2;
        }
        if (imm(k) != 0 && (regOperand(op) || reads(op) || storesReg(op) || exit || go)) {
            return 3;
        }
        boolean immOperand = (alu(op) || cond(op)) && (op & 8) == 0;
        if (s(k) != 0 && (immOperand || alu(op) && in(op >> 4, 8, 13) || storesImm(op) || wide || exit || go)) {
            return 3;
        }
        if (d(k) != 0 && (go || exit) || off(k) != 0 && (alu(op) || wide || exit)) {
            return 3;
        }
        if (wide && k + 1 < words.length && (int) words[k + 1] != 0) {
            return 3;
        }
        if (go || cond(op)) {
            if (off(k) < 0) {
                return 5;
            }
            int goal = k + 1 + off(k);
            if (goal >= words.length || second[goal]) {
                return 4;
            }
        }
        if (wide && k + 1 == words.length) {
            return 4;
        }
        int last = wide ? k + 1 : k;
        return last == words.length - 1 && !exit ? 4 : 0;
    }

    // ---- STATES

    private void verify() {
        boolean[] second = seconds();
        for (int k = 0; k < words.length; k++) {
            if (!second[k]) {
                fault = form(k, second);
                if (fault != 0) {
                    at = k;
                    return;
                }
            }
        }
        states = new St[words.length];
        ways = new ArrayList<>();
        for (int k = 0; k < words.length; k++) {
            ways.add(new ArrayList<>());
        }
        ways.get(0).add(St.first());
        for (int k = 0; k < words.length; k++) {
            if (ways.get(k).isEmpty()) {
                continue;
            }
            states[k] = joinAll(ways.get(k));
            fault = look(k, states[k].copy());
            if (fault != 0) {
                at = k;
                return;
            }
        }
    }

    private static Val joinVals(List<Val> vals) {
        Val first = vals.get(0);
        BigInteger lo = first.lo;
        BigInteger hi = first.hi;
        for (Val v : vals) {
            if (v.kind != first.kind || v.kind == 0 || v.kind == 3 && !v.lo.equals(first.lo)) {
                return Val.NONE;
            }
            lo = lo.min(v.lo);
            hi = hi.max(v.hi);
        }
        return new Val(first.kind, lo, hi);
    }

    private static St joinAll(List<St> all) {
        if (all.size() == 1) {
            return all.get(0);
        }
        St st = new St();
        for (int r = 0; r < 11; r++) {
            List<Val> vals = new ArrayList<>();
            for (St one : all) {
                vals.add(one.regs[r]);
            }
            st.regs[r] = joinVals(vals);
        }
        for (int i = 0; i < 512; i++) {
            st.set[i] = true;
            for (St one : all) {
                st.set[i] &= one.set[i];
            }
        }
        for (int eight = -512; eight < 0; eight += 8) {
            joinEight(st, all, eight);
        }
        return st;
    }

    private static void joinEight(St st, List<St> all, int eight) {
        List<Val> vals = new ArrayList<>();
        boolean pointer = false;
        for (St one : all) {
            Val v = one.kept.getOrDefault(eight, Val.NONE);
            vals.add(v);
            pointer |= v.ptr();
        }
        Val v = joinVals(vals);
        if (v.kind != 0) {
            st.kept.put(eight, v);
        } else if (pointer) {
            for (int i = 0; i < 8; i++) {
                st.set[eight + 512 + i] = false;
            }
        }
    }

    private void on(int k, St st) {
        ways.get(k).add(st);
    }

    private int look(int k, St st) {
        int op = op(k);
        if (op == 0x95) {
            return st.regs[0].kind == 1 ? 0 : 14;
        }
        if (op == 5) {
            on(k + 1 + off(k), st);
            return 0;
        }
        if (op == 0x18) {
            st.regs[d(k)] = Val.num(wide(k));
            on(k + 2, st);
            return 0;
        }
        Val dv = st.regs[d(k)];
        Val sv = st.regs[s(k)];
        boolean usesD = alu(op) && op >> 4 != 11 || cond(op) || storesReg(op) || storesImm(op);
        boolean usesS = regOperand(op) || reads(op) || storesReg(op);
        if (usesD && dv.kind == 0 || usesS && sv.kind == 0) {
            return 6;
        }
        Val operand = usesS ? sv : Val.num(imm(k));
        if (cond(op)) {
            return lookCond(k, st, dv, operand);
        }
        int found = alu(op) ? lookAlu(k, st, dv, operand) : reads(op) ? lookRead(k, st, sv)
                : lookStore(k, st, dv, operand);
        if (found == 0) {
            on(k + 1, st);
        }
        return found;
    }

    private long wide(int k) {
        return (long) imm(k + 1) << 32 | imm(k) & 0xFFFFFFFFL;
    }

    private static boolean within(Val v, BigInteger lo, BigInteger hi) {
        return v.lo.compareTo(lo) >= 0 && v.hi.compareTo(hi) <= 0;
    }

    private int lookAlu(int k, St st, Val dv, Val operand) {
        int op = op(k);
        int kind = op >> 4;
        boolean wide = (op & 7) == 7;
        if (kind == 11 && wide) {
            st.regs[d(k)] = operand;
            return 0;
        }
        if (kind == 11) {
            if (operand.ptr()) {
                return 7;
            }
            st.regs[d(k)] = take32(operand);
            return 0;
        }
        if (dv.ptr() || operand.ptr()) {
            Val moved = moved(kind, wide, dv, operand);
            if (moved == null) {
                return 7;
            }
            st.regs[d(k)] = moved;
            return 0;
        }
        st.regs[d(k)] = numbers(op, imm(k), dv, operand);
        return 0;
    }

    private static Val moved(int kind, boolean wide, Val dv, Val operand) {
        Val p;
        if (wide && kind == 0 && dv.ptr() != operand.ptr()) {
            Val by = dv.ptr() ? operand : dv;
            p = dv.ptr() ? dv : operand;
            if (p.kind == 3 && !by.one()) {
                return null;
            }
            p = new Val(p.kind, p.lo.add(by.lo), p.hi.add(by.hi));
        } else if (wide && kind == 1 && dv.ptr() && !operand.ptr()) {
            if (dv.kind == 3 && !operand.one()) {
                return null;
            }
            p = new Val(dv.kind, dv.lo.subtract(operand.hi), dv.hi.subtract(operand.lo));
        } else {
            return null;
        }
        return within(p, BigInteger.valueOf(-100000), BigInteger.valueOf(100000)) ? p : null;
    }

    static Val take32(Val v) {
        if (v.one()) {
            return Val.num(v.lo.and(MASK32), v.lo.and(MASK32));
        }
        return within(v, BigInteger.ZERO, MASK32) ? v : Val.num(BigInteger.ZERO, MASK32);
    }

    static Val numbers(int op, int imm, Val dv, Val ov) {
        int kind = op >> 4;
        boolean narrow = (op & 7) == 4 && kind != 13;
        Val x = narrow ? take32(dv) : dv;
        Val y = narrow ? take32(ov) : ov;
        if (x.one() && (y.one() || kind == 8 || kind == 13)) {
            return Val.num(tell(op, imm, x.lo.longValue(), y.lo.longValue()));
        }
        Val v = span(kind, narrow, imm, x.lo, x.hi, y.lo, y.hi);
        if (v == null || !within(v, MIN, MAX)) {
            v = Val.ANY;
        }
        return narrow && !within(v, BigInteger.ZERO, MASK32) ? Val.num(BigInteger.ZERO, MASK32) : v;
    }

    private static Val span(int kind, boolean narrow, int imm, BigInteger a, BigInteger b, BigInteger c, BigInteger d) {
        boolean aOk = a.signum() >= 0;
        boolean cOk = c.signum() >= 0;
        BigInteger zero = BigInteger.ZERO;
        boolean fixed = c.equals(d);
        int shift = c.and(BigInteger.valueOf(narrow ? 31 : 63)).intValue();
        switch (kind) {
            case 0:
                return Val.num(a.add(c), b.add(d));
            case 1:
                return Val.num(a.subtract(d), b.subtract(c));
            case 2: {
                BigInteger[] p = {a.multiply(c), a.multiply(d), b.multiply(c), b.multiply(d)};
                return Val.num(p[0].min(p[1]).min(p[2]).min(p[3]), p[0].max(p[1]).max(p[2]).max(p[3]));
            }
            case 3:
                return aOk && c.signum() > 0 ? Val.num(a.divide(d), b.divide(c)) : null;
            case 9:
                return aOk && c.signum() > 0 ? Val.num(zero, b.min(d.subtract(BigInteger.ONE))) : null;
            case 5:
                if (!aOk && !cOk) {
                    return null;
                }
                return Val.num(zero, aOk && cOk ? b.min(d) : cOk ? d : b);
            case 4:
            case 10: {
                if (!aOk || !cOk) {
                    return null;
                }
                int bits = Math.max(b.bitLength(), d.bitLength());
                return Val.num(zero, BigInteger.ONE.shiftLeft(bits).subtract(BigInteger.ONE));
            }
            case 6:
                return fixed ? Val.num(a.shiftLeft(shift), b.shiftLeft(shift)) : null;
            case 7:
                return fixed && aOk ? Val.num(a.shiftRight(shift), b.shiftRight(shift)) : null;
            case 12:
                return fixed && (!narrow || b.bitLength() <= 31) ? Val.num(a.shiftRight(shift), b.shiftRight(shift))
                        : null;
            case 8:
                return Val.num(b.negate(), a.negate());
            case 13:
                return imm == 64 ? null
                        : Val.num(zero, BigInteger.ONE.shiftLeft(imm).subtract(BigInteger.ONE));
            default:
                throw new AssertionError();
        }
    }

    private int lookCond(int k, St st, Val dv, Val operand) {
        if (dv.ptr() || operand.ptr()) {
            return 8;
        }
        int op = op(k);
        int goal = k + 1 + off(k);
        if ((op & 7) == 6 || !operand.one() || op >> 4 == 4) {
            on(goal, st.copy());
            on(k + 1, st.copy());
            return 0;
        }
        Map<Integer, Integer> opposite = Map.of(1, 5, 5, 1, 2, 11, 11, 2, 3, 10, 10, 3, 6, 13, 13, 6, 7, 12);
        int not = op >> 4 == 12 ? 7 : opposite.get(op >> 4);
        way(goal, st, d(k), narrowed(op >> 4, dv, operand.lo));
        way(k + 1, st, d(k), narrowed(not, dv, operand.lo));
        return 0;
    }

    private void way(int goal, St st, int d, Val narrowed) {
        if (narrowed.lo.compareTo(narrowed.hi) <= 0) {
            St other = st.copy();
            other.regs[d] = narrowed;
            on(goal, other);
        }
    }

    /** Low above high: none is left. */
    static Val narrowed(int rel, Val v, BigInteger k) {
        BigInteger one = BigInteger.ONE;
        BigInteger lo = v.lo;
        BigInteger hi = v.hi;
        if (rel == 1) {
            return lo.compareTo(k) <= 0 && k.compareTo(hi) <= 0 ? Val.num(k, k) : Val.num(one, BigInteger.ZERO);
        }
        if (rel == 5) {
            lo = lo.equals(k) ? lo.add(one) : lo;
            hi = hi.equals(k) ? hi.subtract(one) : hi;
            return Val.num(lo, hi);
        }
        if (rel == 2 || rel == 3 || rel == 10 || rel == 11) {
            if (lo.signum() >= 0 && k.signum() >= 0) {
                return narrowed(rel == 2 ? 6 : rel == 3 ? 7 : rel == 10 ? 12 : 13, v, k);
            }
            if (k.signum() >= 0 && rel >= 10) {
                return Val.num(lo.max(BigInteger.ZERO), hi.min(rel == 10 ? k.subtract(one) : k));
            }
            return v;
        }
        if (rel == 12) {
            hi = hi.min(k.subtract(one));
        } else if (rel == 13) {
            hi = hi.min(k);
        } else if (rel == 6) {
            lo = lo.max(k.add(one));
        } else {
            lo = lo.max(k);
        }
        return Val.num(lo, hi);
    }

    private int bounds(int k, Val p, boolean storing) {
        if (!p.ptr()) {
            return 9;
        }
        if (p.kind == 2 && storing) {
            return 10;
        }
        long lo = p.lo.longValue() + off(k);
        long hi = p.hi.longValue() + off(k) + size(op(k));
        if (p.kind == 2) {
            return lo < 0 || hi > context ? 11 : 0;
        }
        return lo < -512 || hi > 0 ? 11 : 0;
    }

    private int lookRead(int k, St st, Val p) {
        int found = bounds(k, p, false);
        if (found != 0) {
            return found;
        }
        int size = size(op(k));
        BigInteger top = BigInteger.ONE.shiftLeft(8 * size).subtract(BigInteger.ONE);
        Val got = size == 8 ? Val.ANY : Val.num(BigInteger.ZERO, top);
        if (p.kind == 3) {
            int from = p.lo.intValue() + off(k);
            if (size == 8 && st.kept.containsKey(from)) {
                st.regs[d(k)] = st.kept.get(from);
                return 0;
            }
            for (int i = from; i < from + size; i++) {
                Val kept = st.kept.get(Math.floorDiv(i, 8) * 8);
                if (!st.set[i + 512] || kept != null && kept.ptr()) {
                    return 12;
                }
            }
        }
        st.regs[d(k)] = got;
        return 0;
    }

    private int lookStore(int k, St st, Val p, Val stored) {
        int found = bounds(k, p, true);
        if (found != 0) {
            return found;
        }
        int size = size(op(k));
        int from = p.lo.intValue() + off(k);
        boolean keeps = storesReg(op(k)) && size == 8 && Math.floorMod(from, 8) == 0;
        if (stored.ptr() && !keeps) {
            return 13;
        }
        for (int eight = Math.floorDiv(from, 8) * 8; eight < from + size; eight += 8) {
            Val lost = st.kept.remove(eight);
            if (lost != null && lost.ptr()) {
                for (int i = 0; i < 8; i++) {
                    st.set[eight + i + 512] = false;
                }
            }
        }
        for (int i = from; i < from + size; i++) {
            st.set[i + 512] = true;
        }
        if (keeps) {
            st.kept.put(from, stored);
        }
        return 0;
    }

    // ---- the MACHINE

    static BigInteger unsigned(long v) {
        return BigInteger.valueOf(v).and(MASK64);
    }

    static long tell(int op, int imm, long d, long operand) {
        int kind = op >> 4;
        if (kind == 13) {
            BigInteger v = unsigned(d).and(BigInteger.ONE.shiftLeft(imm).subtract(BigInteger.ONE));
            if ((op & 8) == 0) {
                return v.longValue();
            }
            BigInteger turned = BigInteger.ZERO;
            for (int i = 0; i < imm / 8; i++) {
                BigInteger octet = v.shiftRight(8 * i).and(BigInteger.valueOf(255));
                turned = turned.or(octet.shiftLeft(imm - 8 - 8 * i));
            }
            return turned.longValue();
        }
        int bits = (op & 7) == 4 ? 32 : 64;
        BigInteger mask = BigInteger.ONE.shiftLeft(bits).subtract(BigInteger.ONE);
        BigInteger x = unsigned(d).and(mask);
        BigInteger y = unsigned(operand).and(mask);
        BigInteger signed = x.testBit(bits - 1) ? x.subtract(BigInteger.ONE.shiftLeft(bits)) : x;
        int shift = y.intValue() & bits - 1;
        BigInteger r = switch (kind) {
            case 0 -> x.add(y);
            case 1 -> x.subtract(y);
            case 2 -> x.multiply(y);
            case 3 -> y.signum() == 0 ? BigInteger.ZERO : x.divide(y);
            case 4 -> x.or(y);
            case 5 -> x.and(y);
            case 6 -> x.shiftLeft(shift);
            case 7 -> x.shiftRight(shift);
            case 8 -> x.negate();
            case 9 -> y.signum() == 0 ? x : x.mod(y);
            case 10 -> x.xor(y);
            case 11 -> y;
            case 12 -> signed.shiftRight(shift);
            default -> throw new AssertionError();
        };
        return r.and(mask).longValue();
    }

    static boolean holds(int op, long d, long operand) {
        boolean narrow = (op & 7) == 6;
        long x = narrow ? (int) d : d;
        long y = narrow ? (int) operand : operand;
        int without = narrow ? Integer.compareUnsigned((int) d, (int) operand) : Long.compareUnsigned(d, operand);
        int with = Long.compare(x, y);
        return switch (op >> 4) {
            case 1 -> x == y;
            case 2 -> without > 0;
            case 3 -> without >= 0;
            case 4 -> (x & y) != 0;
            case 5 -> x != y;
            case 6 -> with > 0;
            case 7 -> with >= 0;
            case 10 -> without < 0;
            case 11 -> without <= 0;
            case 12 -> with < 0;
            case 13 -> with <= 0;
            default -> throw new AssertionError();
        };
    }

    /** A value of a run: kind 1 a number, 2 and 3 a pointer and its offset. */
    record Cell(int kind, long v) {
    }

    int steps;

    /** Runs CODE without a FAULT; whatever goes astray is an AssertionError. Each STATE must hold what is there. */
    long run(byte[] given) {
        Cell[] regs = new Cell[11];
        regs[1] = new Cell(2, 0);
        regs[10] = new Cell(3, 0);
        Map<Integer, Integer> stack = new HashMap<>();
        Map<Integer, Cell> pointers = new HashMap<>();
        steps = 0;
        int k = 0;
        while (true) {
            steps++;
            contain(k, regs);
            int op = op(k);
            if (op == 0x95) {
                return number(regs[0]);
            }
            int next = k + 1;
            Cell right = regOperand(op) || storesReg(op) || reads(op) ? regs[s(k)] : new Cell(1, imm(k));
            if (op == 5) {
                next = k + 1 + off(k);
            } else if (op == 0x18) {
                regs[d(k)] = new Cell(1, wide(k));
                next = k + 2;
            } else if (cond(op)) {
                next = holds(op, number(regs[d(k)]), number(right)) ? k + 1 + off(k) : k + 1;
            } else if (alu(op)) {
                regs[d(k)] = reckon(op, imm(k), regs[d(k)], right);
            } else if (reads(op)) {
                regs[d(k)] = load(right, off(k), size(op), given, stack, pointers);
            } else {
                save(regs[d(k)], off(k), size(op), right, stack, pointers);
            }
            k = next;
        }
    }

    private void contain(int k, Cell[] regs) {
        for (int r = 0; r < 11; r++) {
            Val v = states[k].regs[r];
            if (v.kind == 0) {
                continue;
            }
            BigInteger is = BigInteger.valueOf(regs[r].v);
            if (regs[r].kind != v.kind || is.compareTo(v.lo) < 0 || is.compareTo(v.hi) > 0) {
                throw new AssertionError("R" + r + " before WORD " + k + " is " + regs[r] + ", not within " + v);
            }
        }
    }

    private static long number(Cell c) {
        if (c == null || c.kind != 1) {
            throw new AssertionError("no number: " + c);
        }
        return c.v;
    }

    private static Cell reckon(int op, int imm, Cell d, Cell right) {
        if (op >> 4 == 11 && (op & 7) == 7) {
            return right;
        }
        if (op >> 4 == 0 && (op & 7) == 7 && d.kind != 1) {
            return new Cell(d.kind, d.v + number(right));
        }
        if (op >> 4 == 0 && (op & 7) == 7 && right.kind != 1) {
            return new Cell(right.kind, right.v + number(d));
        }
        if (op >> 4 == 1 && (op & 7) == 7 && d.kind != 1) {
            return new Cell(d.kind, d.v - number(right));
        }
        return new Cell(1, tell(op, imm, op >> 4 == 11 ? 0 : number(d), number(right)));
    }

    private static Cell load(Cell p, int off, int size, byte[] given, Map<Integer, Integer> stack,
            Map<Integer, Cell> pointers) {
        int from = (int) p.v + off;
        if (p.kind == 3 && size == 8 && pointers.containsKey(from)) {
            return pointers.get(from);
        }
        BigInteger v = BigInteger.ZERO;
        for (int i = 0; i < size; i++) {
            if (p.kind == 3 && pointers.containsKey(Math.floorDiv(from + i, 8) * 8)) {
                throw new AssertionError("octets of a pointer");
            }
            int octet = p.kind == 2 ? given[from + i] & 255 : stack.get(from + i);
            v = v.or(BigInteger.valueOf(octet).shiftLeft(8 * i));
        }
        return new Cell(1, v.longValue());
    }

    private static void save(Cell p, int off, int size, Cell what, Map<Integer, Integer> stack,
            Map<Integer, Cell> pointers) {
        int from = (int) p.v + off;
        if (p.kind != 3 || from < -512 || from + size > 0) {
            throw new AssertionError("stores astray");
        }
        for (int i = 0; i < size; i++) {
            if (pointers.remove(Math.floorDiv(from + i, 8) * 8) != null) {
                for (int j = 0; j < 8; j++) {
                    stack.remove(Math.floorDiv(from + i, 8) * 8 + j);
                }
            }
        }
        if (what.kind != 1) {
            pointers.put(from, what);
            return;
        }
        for (int i = 0; i < size; i++) {
            stack.put(from + i, (int) (what.v >> 8 * i & 255));
        }
    }
}
