/** Terms 2, STATES and the FAULTS 6 to 14: just inside, at and just outside of each bound that is named. */
public final class StateBoundsTest {
    private static final Check CHECK = new Check("StateBoundsTest");
    private static final long MIN = Long.MIN_VALUE;
    private static final long MAX = Long.MAX_VALUE;
    private static final int NUMBER = 1;
    private static final int CONTEXT = 2;
    private static final int STACK = 3;
    private static final int[] SIZES = {1, 2, 4, 8};

    /** The FAULT is that of the program's last WORD; 0 if there is none. */
    private static WordJudge due(String what, int want, int context, Program program) {
        WordJudge x = program.ended(context);
        CHECK.due(what, x.verify(), want);
        CHECK.due(what + ": where", x.fault(), want == 0 ? -1 : program.size() - 1);
        return x;
    }

    private static Program of(long... words) {
        return new Program().add(words);
    }

    /** What register r is behind the program's WORDS. */
    private static void dueState(String what, int context, Program program, int r, long kind, long low, long high) {
        WordJudge x = due(what, 0, context, program);
        dueStateAt(what, x, program.size(), r, kind, low, high);
    }

    private static void dueStateAt(String what, WordJudge x, int k, int r, long kind, long low, long high) {
        CHECK.due(what + ": kind", x.state(k, r, 0), kind);
        CHECK.due(what + ": low", x.state(k, r, 1), low);
        CHECK.due(what + ": high", x.state(k, r, 2), high);
    }

    // ---- 7: "an offset (low, high) beyond -100000 to 100000"

    private static void moves() {
        long[] far = {99999, 100000, 100001, 199999, 200000, 200001, 1L << 31, 1L << 32, 1L << 62, MAX - 1, MAX};
        for (long n : far) {
            int want = n <= 100000 ? 0 : 7;
            dueMoved(n, n, want);
            dueMoved(-n, -n, want);
            dueMoved(0, n, want);
            dueMoved(-n, 0, want);
            dueMoved(-n, n, want);
        }
        dueMoved(MIN, MIN, 7);
        dueMoved(MIN, 0, 7);
        dueMoved(MIN, MAX, 7);
        // From an offset that is far already.
        for (int kind : new int[] {CONTEXT, STACK}) {
            Program at = of(Asm.move(2, kind == CONTEXT ? 1 : 10), Asm.alu(0, 2, 100000));
            dueState("from the farthest", 0, of(at.all()).add(Asm.alu(0, 2, 0)), 2, kind, 100000, 100000);
            due("one beyond the farthest", 7, 0, of(at.all()).add(Asm.alu(0, 2, 1)));
            dueState("one back", 0, of(at.all()).add(Asm.alu(1, 2, 1)), 2, kind, 99999, 99999);
            dueState("to the other end", 0, of(at.all()).add(Asm.alu(1, 2, 200000)), 2, kind, -100000, -100000);
            due("beyond the other end", 7, 0, of(at.all()).add(Asm.alu(1, 2, 200001)));
            dueState("+ to the other end", 0, of(at.all()).add(Asm.alu(0, 2, -200000)), 2, kind, -100000, -100000);
            due("+ beyond the other end", 7, 0, of(at.all()).add(Asm.alu(0, 2, -200001)));
            Program back = of(at.all()).add(Asm.alu(1, 2, 200000));
            due("one beyond the other end", 7, 0, of(back.all()).add(Asm.alu(0, 2, -1)));
            dueState("all the way", 0, of(back.all()).add(Asm.alu(0, 2, 200000)), 2, kind, 100000, 100000);
            due("farther than all the way", 7, 0, of(back.all()).add(Asm.alu(0, 2, 200001)));
            dueState("all the way by -", 0, of(back.all()).add(Asm.alu(1, 2, -200000)), 2, kind, 100000, 100000);
            due("farther than all the way by -", 7, 0, of(back.all()).add(Asm.alu(1, 2, -200001)));
            due("wraps to where it was", 7, 0, of(at.all()).number(3, MIN).add(Asm.aluS(0, 2, 3)));
        }
    }

    /** A pointer in R2 and a number from low to high in R3: +, - and + the other way. */
    private static void dueMoved(long low, long high, int want) {
        for (int kind : new int[] {CONTEXT, STACK}) {
            // "STACK: only by just one number, else 7"
            int due = kind == STACK && low != high ? 7 : want;
            String what = (kind == STACK ? "STACK by [" : "CONTEXT by [") + low + ", " + high + "]";
            Program before = of(Asm.move(2, kind == CONTEXT ? 1 : 10)).span(3, low, high);
            dueMove(what + " +", due, of(before.all()).add(Asm.aluS(0, 2, 3)), 2, kind, low, high);
            dueMove(what + " + the other way", due, of(before.all()).add(Asm.aluS(0, 3, 2)), 3, kind, low, high);
            dueMove(what + " -", due, of(before.all()).add(Asm.aluS(1, 2, 3)), 2, kind, -high, -low);
            due(what + " - the other way", 7, 1, of(before.all()).add(Asm.aluS(1, 3, 2)));
            if (low == high && low == (int) low) {
                dueMove(what + " + IMM", due, of(before.all()).add(Asm.alu(0, 2, (int) low)), 2, kind, low, high);
                dueMove(what + " - IMM", due, of(before.all()).add(Asm.alu(1, 2, (int) low)), 2, kind, -high, -low);
            }
        }
    }

    private static void dueMove(String what, int want, Program program, int r, int kind, long low, long high) {
        if (want == 0) {
            dueState(what, 1, program, r, kind, low, high);
        } else {
            due(what, want, 1, program);
        }
    }

    // 7: "Any other pointer"
    private static void otherPointers() {
        int[] kinds = {2, 3, 4, 5, 6, 7, 9, 10, 12};
        for (int p : new int[] {1, 10}) {
            for (int kind : kinds) {
                due("pointer and IMM, " + kind, 7, 1, of(Asm.move(2, p), Asm.alu(kind, 2, 0)));
                due("number and pointer, " + kind, 7, 1, of(Asm.set(2, 0), Asm.aluS(kind, 2, p)));
                due("pointer and number, " + kind, 7, 1, of(Asm.move(2, p), Asm.set(3, 1), Asm.aluS(kind, 2, 3)));
            }
            for (int kind : new int[] {0, 1, 2, 3, 4, 5, 6, 7, 9, 10, 12}) {
                due("pointers, " + kind, 7, 1, of(Asm.move(2, p), Asm.aluS(kind, 2, 1)));
                due("pointers, " + kind, 7, 1, of(Asm.move(2, p), Asm.aluS(kind, 2, 10)));
                due("32 bits, IMM, " + kind, 7, 1, of(Asm.move(2, p), Asm.alu32(kind, 2, 0)));
                due("32 bits, S, " + kind, 7, 1, of(Asm.set(2, 0), Asm.alu32S(kind, 2, p)));
            }
            due("32 bits, moved", 7, 1, of(Asm.alu32S(11, 2, p)));
            due("0 -", 7, 1, of(Asm.move(2, p), Asm.alu(8, 2, 0)));
            due("0 - of 32 bits", 7, 1, of(Asm.move(2, p), Asm.alu32(8, 2, 0)));
            for (int bits = 16; bits <= 64; bits *= 2) {
                due("13", 7, 1, of(Asm.move(2, p), Asm.word(0xD4, 2, 0, 0, bits)));
                due("13 turned", 7, 1, of(Asm.move(2, p), Asm.word(0xDC, 2, 0, 0, bits)));
            }
            dueState("11 of 64 bits", 1, of(Asm.move(2, p)), 2, p == 1 ? CONTEXT : STACK, 0, 0);
        }
    }

    // ---- 6 and 8

    // "a register that it uses (D, if its old number counts; S) is NONE"
    private static void nones() {
        for (int r : new int[] {0, 2, 3, 4, 5, 6, 7, 8, 9}) {
            due("R" + r + " as D", 6, 1, of(Asm.alu(0, r, 1)));
            due("R" + r + " as S", 6, 1, of(Asm.move(r == 9 ? 8 : 9, r)));
            dueState("R" + r + " as D that gets", 1, of(Asm.set(r, 1)), r, NUMBER, 1, 1);
            dueState("R" + r + " as D of 32 bits", 1, of(Asm.alu32(11, r, -1)), r, NUMBER, (1L << 32) - 1,
                (1L << 32) - 1);
            dueState("R" + r + " read", 1, of(Asm.read(1, r, 1, 0)), r, NUMBER, 0, 255);
            dueState("R" + r + " wide", 1, of(Asm.wide(r, 1), 0), r, NUMBER, 1, 1);
        }
        for (int kind : new int[] {0, 1, 2, 3, 4, 5, 6, 7, 9, 10, 12}) {
            due("D of kind " + kind, 6, 1, of(Asm.set(3, 1), Asm.aluS(kind, 2, 3)));
            due("S of kind " + kind, 6, 1, of(Asm.set(2, 1), Asm.aluS(kind, 2, 3)));
            due("D of 32 bits of kind " + kind, 6, 1, of(Asm.set(3, 1), Asm.alu32S(kind, 2, 3)));
            due("S of 32 bits of kind " + kind, 6, 1, of(Asm.set(2, 1), Asm.alu32S(kind, 2, 3)));
            due("6 before 7, of kind " + kind, 6, 1, of(Asm.aluS(kind, 1, 3)));
        }
        for (int relation : new int[] {1, 2, 3, 4, 5, 6, 7, 10, 11, 12, 13}) {
            due("D of relation " + relation, 6, 1, of(Asm.when(relation, 2, 0, 0)));
            due("S of relation " + relation, 6, 1, of(Asm.set(2, 0), Asm.whenS(relation, 2, 3, 0)));
            due("6 before 8", 6, 1, of(Asm.whenS(relation, 1, 3, 0)));
            due("6 before 8, of 32 bits", 6, 1, of(Asm.when32S(relation, 3, 1, 0)));
            for (int p : new int[] {1, 10}) {
                due("8: D", 8, 1, of(Asm.when(relation, p, 0, 0)));
                due("8: D of 32 bits", 8, 1, of(Asm.when32(relation, p, 0, 0)));
                due("8: S", 8, 1, of(Asm.set(2, 0), Asm.whenS(relation, 2, p, 0)));
                due("8: S of 32 bits", 8, 1, of(Asm.set(2, 0), Asm.when32S(relation, 2, p, 0)));
                due("8: both", 8, 1, of(Asm.whenS(relation, p, p, 0)));
            }
        }
        for (int size : SIZES) {
            due("read from NONE", 6, 1, of(Asm.read(size, 2, 3, 0)));
            due("store to NONE", 6, 1, of(Asm.storeImm(size, 3, 0, 0)));
            due("store NONE", 6, 1, of(Asm.store(size, 10, -8, 3)));
            due("6 before 9", 6, 1, of(Asm.set(2, 0), Asm.store(size, 2, 0, 3)));
            due("6 before 10", 6, 1, of(Asm.store(size, 1, 0, 3)));
            due("6 before 11", 6, 1, of(Asm.store(size, 10, 0, 3)));
            due("9: read", 9, 1, of(Asm.set(2, 0), Asm.read(size, 3, 2, 0)));
            due("9: store", 9, 1, of(Asm.set(2, 0), Asm.storeImm(size, 2, 0, 0)));
            due("9 before 13", 9, 1, of(Asm.set(2, 0), Asm.store(size, 2, 0, 1)));
            due("10: store", 10, 8, of(Asm.storeImm(size, 1, 0, 0)));
            due("10 before 11", 10, 8, of(Asm.storeImm(size, 1, -1, 0)));
            due("10 before 13", 10, 8, of(Asm.store(size, 1, 0, 10)));
        }
    }

    // ---- 11

    // "its low and OFF below 0, or its high and OFF and the size above the length"
    private static void contextEnds() {
        for (int length : new int[] {0, 1, 2, 3, 4, 5, 7, 8, 9, 255, 256}) {
            for (int size : SIZES) {
                for (int off : new int[] {-32768, -2, -1, 0, 1, length - size - 1, length - size, length - size + 1,
                    length, 32767}) {
                    int want = off >= 0 && off + size <= length ? 0 : 11;
                    due(size + " octets at " + off + " of " + length, want, length, of(Asm.read(size, 0, 1, off)));
                }
            }
        }
        for (int size : SIZES) {
            // R1 is moved by 10 to 14: the least OFF is -10, the greatest one 40 - 14 - size.
            for (int off = -12; off <= 40; off++) {
                int want = off >= -10 && off + size <= 26 ? 0 : 11;
                due("span and " + off, want, 40, new Program().span(2, 10, 14).add(Asm.aluS(0, 1, 2),
                    Asm.read(size, 0, 1, off)));
            }
        }
        dueState("one octet", 1, of(Asm.read(1, 2, 1, 0)), 2, NUMBER, 0, 255);
        dueState("two octets", 2, of(Asm.read(2, 2, 1, 0)), 2, NUMBER, 0, 65535);
        dueState("four octets", 4, of(Asm.read(4, 2, 1, 0)), 2, NUMBER, 0, (1L << 32) - 1);
        dueState("eight octets", 8, of(Asm.read(8, 2, 1, 0)), 2, NUMBER, MIN, MAX);
        dueState("into S itself", 8, of(Asm.read(1, 1, 1, 0)), 1, NUMBER, 0, 255);
    }

    // "STACK: its offset and OFF below -512, or with the size above 0: 11"
    private static void stackEnds() {
        for (int size : SIZES) {
            for (int moved : new int[] {-100000, -600, -512, -8, 0, 8, 600, 32768, 100000}) {
                for (int at : new int[] {-514, -513, -512, -511, -504, -size - 1, -size, 1 - size, 0, 1, 8}) {
                    int off = at - moved;
                    if (off >= -32768 && off <= 32767) {
                        boolean inside = at >= -512 && at + size <= 0;
                        dueStackEnd(size, moved, off, inside);
                    }
                }
            }
        }
    }

    private static void dueStackEnd(int size, int moved, int off, boolean inside) {
        String what = size + " octets of the STACK at " + moved + " and " + off;
        Program before = of(Asm.move(2, 10), Asm.alu(0, 2, moved), Asm.set(3, 5));
        due(what + ": IMM", inside ? 0 : 11, 0, of(before.all()).add(Asm.storeImm(size, 2, off, 1)));
        due(what + ": S", inside ? 0 : 11, 0, of(before.all()).add(Asm.store(size, 2, off, 3)));
        due(what + ": read", inside ? 12 : 11, 0, of(before.all()).add(Asm.read(size, 4, 2, off)));
        boolean aligned = size == 8 && Math.floorMod(moved + off, 8) == 0;
        due(what + ": pointer", !inside ? 11 : aligned ? 0 : 13, 0,
            of(before.all()).add(Asm.store(size, 2, off, 10)));
    }

    // ---- 12, 13, SET and KEPT

    // "one that is not SET: 12"
    private static void octetsSet() {
        for (int stored : SIZES) {
            for (int read : SIZES) {
                for (int at = -24; at <= -read; at++) {
                    boolean inside = at >= -16 && at + read <= -16 + stored;
                    String what = read + " octets at " + at + " of " + stored + " at -16";
                    due(what, inside ? 0 : 12, 0, of(Asm.storeImm(stored, 10, -16, 1), Asm.read(read, 2, 10, at)));
                    due(what + " of S", inside ? 0 : 12, 0,
                        of(Asm.set(2, 1), Asm.store(stored, 10, -16, 2), Asm.read(read, 2, 10, at)));
                }
            }
        }
        for (int end : new int[] {-512, -8}) {
            dueState("the first and the last eight", 0, of(Asm.set(2, 4), Asm.store(8, 10, end, 2),
                Asm.read(8, 3, 10, end)), 3, NUMBER, 4, 4);
            for (int i = 0; i < 8; i++) {
                due("octets beside one", 12, 0, of(Asm.storeImm(1, 10, end + i, 1),
                    Asm.read(1, 3, 10, end + (i + 1) % 8)));
                due("one octet", 0, 0, of(Asm.storeImm(1, 10, end + i, 1), Asm.read(1, 3, 10, end + i)));
            }
        }
    }

    // "an aligned 8 (offsets -512, -504, .. -8) that was stored as a whole from a register is KEPT as that"
    private static void aligned() {
        for (int at = -512; at <= -8; at++) {
            boolean is = at % 8 == 0;
            dueState("number at " + at, 0, of(Asm.set(2, 77), Asm.store(8, 10, at, 2), Asm.read(8, 3, 10, at)), 3,
                NUMBER, is ? 77 : MIN, is ? 77 : MAX);
            if (is) {
                dueState("CONTEXT at " + at, 0, of(Asm.alu(0, 1, 9), Asm.store(8, 10, at, 1), Asm.read(8, 3, 10, at)),
                    3, CONTEXT, 9, 9);
                dueState("STACK at " + at, 0, of(Asm.store(8, 10, at, 10), Asm.read(8, 3, 10, at)), 3, STACK, 0, 0);
            } else {
                due("CONTEXT at " + at, 13, 0, of(Asm.store(8, 10, at, 1)));
                due("STACK at " + at, 13, 0, of(Asm.store(8, 10, at, 10)));
            }
        }
        dueState("IMM is not KEPT", 0, of(Asm.storeImm(8, 10, -8, 77), Asm.read(8, 3, 10, -8)), 3, NUMBER, MIN, MAX);
        for (int size : new int[] {1, 2, 4}) {
            due("pointer in " + size, 13, 0, of(Asm.store(size, 10, -8, 1)));
            due("STACK in " + size, 13, 0, of(Asm.store(size, 10, -512, 10)));
        }
        dueState("in halves", 0, of(Asm.set(2, 7), Asm.store(4, 10, -8, 2), Asm.store(4, 10, -4, 2),
            Asm.read(8, 3, 10, -8)), 3, NUMBER, MIN, MAX);
    }

    // "all 8 octets of a KEPT one: D is that; else: octets of a KEPT pointer, ...: 12"
    private static void readingKept() {
        Program pointer = of(Asm.storeImm(8, 10, -24, 1), Asm.store(8, 10, -16, 1), Asm.storeImm(8, 10, -8, 1));
        Program number = of(Asm.storeImm(8, 10, -24, 1), Asm.set(2, 3), Asm.store(8, 10, -16, 2),
            Asm.storeImm(8, 10, -8, 1));
        for (int size : SIZES) {
            for (int at = -24; at <= -size; at++) {
                boolean apart = at + size <= -16 || at >= -8;
                boolean whole = size == 8 && at == -16;
                String what = size + " octets at " + at + " near a KEPT ";
                due(what + "pointer", apart || whole ? 0 : 12, 0, of(pointer.all()).add(Asm.read(size, 3, 10, at)));
                long high = whole ? 3 : size == 8 ? MAX : (1L << 8 * size) - 1;
                long low = whole ? 3 : size == 8 ? MIN : 0;
                dueState(what + "number", 0, of(number.all()).add(Asm.read(size, 3, 10, at)), 3, NUMBER, low, high);
            }
        }
    }

    // "by others what is KEPT where they come is no more (of a KEPT pointer the other octets are not SET then)"
    private static void overwriting() {
        for (int size : SIZES) {
            for (int at = -24; at <= -size; at++) {
                boolean apart = at + size <= -16 || at >= -8;
                long w = Asm.storeImm(size, 10, at, 1);
                String what = size + " octets stored at " + at + " near a KEPT ";
                long low = apart ? 3 : MIN;
                long high = apart ? 3 : MAX;
                dueState(what + "number", 0, of(Asm.set(2, 3), Asm.store(8, 10, -16, 2), w, Asm.read(8, 3, 10, -16)),
                    3, NUMBER, low, high);
                for (int octet = -16; octet < -8; octet++) {
                    boolean fresh = octet >= at && octet < at + size;
                    due(what + "pointer, octet " + octet, fresh ? 0 : 12, 0,
                        of(Asm.store(8, 10, -16, 1), w, Asm.read(1, 3, 10, octet)));
                    due(what + "number, octet " + octet, 0, 0,
                        of(Asm.set(2, 3), Asm.store(8, 10, -16, 2), w, Asm.read(1, 3, 10, octet)));
                }
                dueWholePointer(what + "pointer", apart, at == -16 && size == 8, w);
            }
        }
        dueState("by a register that is KEPT", 0, of(Asm.store(8, 10, -16, 1), Asm.set(2, 3), Asm.store(8, 10, -16, 2),
            Asm.read(8, 3, 10, -16)), 3, NUMBER, 3, 3);
        due("its octets are SET", 0, 0, of(Asm.store(8, 10, -16, 1), Asm.set(2, 3), Asm.store(8, 10, -16, 2),
            Asm.read(1, 3, 10, -9)));
        dueState("pointer by pointer", 0, of(Asm.store(8, 10, -16, 1), Asm.store(8, 10, -16, 10),
            Asm.read(8, 3, 10, -16)), 3, STACK, 0, 0);
        due("a pointer over octets that were SET", 12, 0, of(Asm.storeImm(8, 10, -16, 1), Asm.store(8, 10, -16, 1),
            Asm.read(1, 3, 10, -16)));
    }

    private static void dueWholePointer(String what, boolean apart, boolean allFresh, long w) {
        Program program = of(Asm.store(8, 10, -16, 1), w, Asm.read(8, 3, 10, -16));
        if (apart) {
            dueState(what, 0, program, 3, CONTEXT, 0, 0);
        } else if (allFresh) {
            dueState(what, 0, program, 3, NUMBER, MIN, MAX);
        } else {
            due(what, 12, 0, program);
        }
    }

    // ---- 14

    private static void dueExit(String what, int want, Program program) {
        WordJudge x = Asm.judge(8, of(program.all()).add(Asm.EXIT).all());
        CHECK.due(what, x.verify(), want);
        CHECK.due(what + ": where", x.fault(), want == 0 ? -1 : program.size());
    }

    private static long[] ways(long... words) {
        return words;
    }

    // "EXIT: R0 is no NUMBER (NONE, too): 14"
    private static void exits() {
        dueExit("NONE", 14, of());
        dueExit("NONE behind others", 14, of(Asm.set(2, 1)));
        dueExit("CONTEXT", 14, of(Asm.move(0, 1)));
        dueExit("STACK", 14, of(Asm.move(0, 10)));
        dueExit("one number", 0, of(Asm.set(0, 0)));
        dueExit("all numbers", 0, of(Asm.read(8, 0, 1, 0)));
        dueExit("a KEPT pointer", 14, of(Asm.store(8, 10, -8, 1), Asm.read(8, 0, 10, -8)));
        dueExit("a KEPT number", 0, of(Asm.set(2, 1), Asm.store(8, 10, -8, 2), Asm.read(8, 0, 10, -8)));
        dueExit("NUMBER and NONE", 14, of().either(ways(Asm.set(0, 1)), ways(Asm.set(2, 1))));
        dueExit("NUMBER and NUMBER", 0, of().either(ways(Asm.set(0, 1)), ways(Asm.set(0, 2))));
        dueExit("NUMBER and CONTEXT", 14, of().either(ways(Asm.set(0, 1)), ways(Asm.move(0, 1))));
        dueExit("CONTEXT and CONTEXT", 14, of().either(ways(Asm.move(0, 1)), ways(Asm.move(0, 1))));
    }

    // ---- "Where more than one comes to a WORD"

    private static void dueJoined(String what, long[] one, long[] two, int kind, long low, long high) {
        dueState(what, 1, of().either(one, two), 2, kind, low, high);
        dueState(what + ", the other way", 1, of().either(two, one), 2, kind, low, high);
    }

    private static long[] moved(int from, int by) {
        return ways(Asm.move(2, from), Asm.alu(0, 2, by));
    }

    private static long[] just(long v) {
        return new Program().number(2, v).all();
    }

    private static void joins() {
        dueJoined("the same number", just(4), just(4), NUMBER, 4, 4);
        dueJoined("one apart", just(4), just(5), NUMBER, 4, 5);
        dueJoined("with sign", just(-1), just(1), NUMBER, -1, 1);
        dueJoined("all there are", just(MIN), just(MAX), NUMBER, MIN, MAX);
        dueJoined("one within the other", ways(Asm.read(1, 2, 1, 0)), just(200), NUMBER, 0, 255);
        dueJoined("one just beyond the other", ways(Asm.read(1, 2, 1, 0)), just(256), NUMBER, 0, 256);
        dueJoined("one just before the other", ways(Asm.read(1, 2, 1, 0)), just(-1), NUMBER, -1, 255);
        dueJoined("CONTEXTS", moved(1, 3), moved(1, 5), CONTEXT, 3, 5);
        dueJoined("farthest CONTEXTS", moved(1, -100000), moved(1, 100000), CONTEXT, -100000, 100000);
        dueJoined("the same STACK", moved(10, -8), moved(10, -8), STACK, -8, -8);
        dueJoined("one octet apart", moved(10, -8), moved(10, -7), 0, 0, 0);
        dueJoined("CONTEXT and STACK", moved(1, -8), moved(10, -8), 0, 0, 0);
        dueJoined("NUMBER and CONTEXT", just(0), moved(1, 0), 0, 0, 0);
        dueJoined("NUMBER and STACK", just(0), moved(10, 0), 0, 0, 0);
        dueJoined("NUMBER and NONE", just(0), ways(), 0, 0, 0);
        dueJoined("CONTEXT and NONE", moved(1, 0), ways(), 0, 0, 0);
        dueJoined("NONE and NONE", ways(), ways(), 0, 0, 0);
        // What is NONE of two stays so with a third.
        Program three = of().either(moved(10, -8), moved(10, -16));
        long[] inner = three.all();
        dueJoined("three STACKS", inner, moved(10, -8), 0, 0, 0);
        dueJoined("three NUMBERS", of().either(just(4), just(9)).all(), just(2), NUMBER, 2, 9);
        due("joined to NONE is not used", 6, 1, of().either(just(0), ways()).add(Asm.alu(0, 2, 1)));
    }

    /** What a read tells where two ways meet that stored to the same eight: kind 0 is FAULT 12. */
    private static void dueStored(String what, long[] one, long[] two, long read, int kind, long low, long high) {
        for (int turn = 0; turn < 2; turn++) {
            Program program = of().either(turn == 0 ? one : two, turn == 0 ? two : one).add(read);
            if (kind == 0) {
                due("joined STACK: " + what, 12, 1, program);
            } else {
                dueState("joined STACK: " + what, 1, program, 4, kind, low, high);
            }
        }
    }

    // "octets: SET if they are in all; KEPT: if it is in all, ...; what was KEPT as a pointer in one of them ..."
    private static void joinsOfStack(int at) {
        long whole = Asm.read(8, 4, 10, at);
        long[] eight = ways(Asm.storeImm(8, 10, at, 1));
        long[] nothing = ways();
        long[] five = ways(Asm.set(2, 5), Asm.store(8, 10, at, 2));
        long[] nine = ways(Asm.set(2, 9), Asm.store(8, 10, at, 2));
        long[] context = ways(Asm.store(8, 10, at, 1));
        long[] farther = ways(Asm.move(3, 1), Asm.alu(0, 3, 2), Asm.store(8, 10, at, 3));
        long[] stack = ways(Asm.store(8, 10, at, 10));
        long[] lower = ways(Asm.move(3, 10), Asm.alu(0, 3, -1), Asm.store(8, 10, at, 3));
        dueStored("KEPT in both", five, nine, whole, NUMBER, 5, 9);
        dueStored("KEPT in both as CONTEXT", context, farther, whole, CONTEXT, 0, 2);
        dueStored("KEPT in both as the same STACK", stack, stack, whole, STACK, 0, 0);
        dueStored("KEPT in one", five, eight, whole, NUMBER, MIN, MAX);
        dueStored("KEPT in one, nothing in the other", five, nothing, whole, 0, 0, 0);
        dueStored("SET in both", eight, eight, whole, NUMBER, MIN, MAX);
        dueStored("SET in one", eight, nothing, whole, 0, 0, 0);
        for (int octet = at; octet < at + 8; octet++) {
            long read = Asm.read(1, 4, 10, octet);
            dueStored("octet of SET", eight, eight, read, NUMBER, 0, 255);
            dueStored("octet of one", eight, nothing, read, 0, 0, 0);
            dueStored("octet of KEPT numbers", five, nine, read, NUMBER, 0, 255);
            dueStored("octet of KEPT and SET", five, eight, read, NUMBER, 0, 255);
            dueStored("octet of KEPT pointers", context, farther, read, 0, 0, 0);
            dueStored("octet of other STACKS", stack, lower, read, 0, 0, 0);
            dueStored("octet of pointer and number", context, five, read, 0, 0, 0);
            dueStored("octet of pointer and SET", stack, eight, read, 0, 0, 0);
            dueStored("octet of CONTEXT and STACK", context, stack, read, 0, 0, 0);
            long[] half = ways(Asm.storeImm(4, 10, at, 1));
            dueStored("octet of half", eight, half, read, octet < at + 4 ? NUMBER : 0, 0, 255);
            dueStored("octet of half and KEPT", five, half, read, octet < at + 4 ? NUMBER : 0, 0, 255);
            dueStored("octet of half and pointer", context, half, read, 0, 0, 0);
        }
        dueStored("other STACKS", stack, lower, whole, 0, 0, 0);
        dueStored("pointer and number", context, five, whole, 0, 0, 0);
        dueStored("pointer and SET", context, eight, whole, 0, 0, 0);
        // "in one of them": also the third one of three.
        long[] two = of().either(five, eight).all();
        dueStored("two numbers and a pointer", two, context, Asm.read(1, 4, 10, at), 0, 0, 0);
        dueStored("two numbers and SET", of().either(five, nine).all(), eight, whole, NUMBER, MIN, MAX);
        dueStored("three numbers", of().either(five, nine).all(), ways(Asm.set(2, 1), Asm.store(8, 10, at, 2)), whole,
            NUMBER, 1, 9);
    }

    // "that before WORD 0 is as above": in each verify, whatever the one before it has found
    private static void again() {
        Program first = of(Asm.alu(0, 1, 1), Asm.set(0, 7), Asm.set(9, 8), Asm.move(8, 10), Asm.store(8, 10, -8, 9),
            Asm.store(8, 10, -512, 1), Asm.storeImm(8, 10, -256, 1), Asm.alu(1, 8, 3));
        WordJudge x = due("a verify", 0, 8, first);
        CHECK.due("verify again", x.verify(), 0);
        for (int r = 0; r <= 10; r++) {
            dueStateAt("R" + r + " before WORD 0 again", x, 0, r, r == 1 ? CONTEXT : r == 10 ? STACK : 0, 0, 0);
            dueStateAt("R" + r + " before WORD 1 again", x, 1, r, r == 1 ? CONTEXT : r == 10 ? STACK : 0,
                r == 1 ? 1 : 0, r == 1 ? 1 : 0);
        }
        for (int at : new int[] {-512, -505, -256, -249, -8, -1}) {
            Asm.load(x, Asm.set(0, 0), Asm.read(1, 2, 10, at), Asm.EXIT);
            CHECK.due("no octet is SET again", x.verify(), 12);
        }
        for (int at : new int[] {-512, -256, -8}) {
            Asm.load(x, Asm.set(0, 0), Asm.read(8, 2, 10, at), Asm.EXIT);
            CHECK.due("no eight is KEPT again", x.verify(), 12);
        }
        Asm.load(x, Asm.go(1), Asm.alu(0, 9, 1), Asm.set(0, 0), Asm.EXIT);
        CHECK.due("what was come to before", x.verify(), 0);
        CHECK.due("what was come to before: how many", x.count(3), 3);
        CHECK.dueThrow("what was come to before: state", IndexOutOfBoundsException.class, () -> x.state(1, 0, 0));
        CHECK.dueThrow("what was there before", IndexOutOfBoundsException.class, () -> x.state(4, 0, 0));
    }

    // ---- "D is narrowed"

    private static final long[] NONE = {1, 0};

    private static long[] span(long low, long high) {
        return new long[] {low, high};
    }

    /** What D is on the way that goes, and on the one that goes on; and turned around for the opposite relation. */
    private static void narrow(int relation, int opposite, long[] d, long k, long[] goes, long[] goesOn) {
        narrowOne(relation, d, k, goes, goesOn);
        narrowOne(opposite, d, k, goesOn, goes);
    }

    private static void narrowOne(int relation, long[] d, long k, long[] goes, long[] goesOn) {
        narrowBy(relation, d, k, goes, goesOn, true);
        if (k == (int) k) {
            narrowBy(relation, d, k, goes, goesOn, false);
        }
    }

    private static void narrowBy(int relation, long[] d, long k, long[] goes, long[] goesOn, boolean byRegister) {
        String what = "[" + d[0] + ", " + d[1] + "] relation " + relation + " " + k;
        Program program = of(Asm.set(0, 0)).span(2, d[0], d[1]).number(3, k);
        int at = program.size();
        program.add(byRegister ? Asm.whenS(relation, 2, 3, 1) : Asm.when(relation, 2, (int) k, 1), Asm.EXIT);
        WordJudge x = program.ended(1);
        CHECK.due(what, x.verify(), 0);
        dueWay(what + ": goes", x, at + 2, goes);
        dueWay(what + ": goes on", x, at + 1, goesOn);
        int gone = (goes[0] <= goes[1] ? 2 : 0) + (goesOn[0] <= goesOn[1] ? 1 : 0);
        // R0, two 0x18 and the condition are come to; where D is more than one number, three more that make it so.
        CHECK.due(what + ": come to", x.count(3), gone + (d[0] == d[1] ? 4 : 7));
    }

    private static void dueWay(String what, WordJudge x, int k, long[] want) {
        if (want[0] > want[1]) {
            CHECK.dueThrow(what + " is not gone", IndexOutOfBoundsException.class, () -> x.state(k, 2, 0));
        } else {
            dueStateAt(what, x, k, 2, NUMBER, want[0], want[1]);
        }
    }

    // "=: low and high k, if k is from its low to its high, else none is left; not =: ..."
    private static void equals() {
        long[] d = span(3, 9);
        narrow(1, 5, d, 2, NONE, d);
        narrow(1, 5, d, 3, span(3, 3), span(4, 9));
        narrow(1, 5, d, 4, span(4, 4), d);
        narrow(1, 5, d, 8, span(8, 8), d);
        narrow(1, 5, d, 9, span(9, 9), span(3, 8));
        narrow(1, 5, d, 10, NONE, d);
        narrow(1, 5, span(3, 4), 3, span(3, 3), span(4, 4));
        narrow(1, 5, span(3, 4), 4, span(4, 4), span(3, 3));
        narrow(1, 5, span(MIN, MAX), MIN, span(MIN, MIN), span(MIN + 1, MAX));
        narrow(1, 5, span(MIN, MAX), MAX, span(MAX, MAX), span(MIN, MAX - 1));
        narrow(1, 5, span(MIN, MAX), 0, span(0, 0), span(MIN, MAX));
        for (long one : new long[] {MIN, -1, 0, 7, MAX}) {
            narrow(1, 5, span(one, one), one, span(one, one), NONE);
            narrow(1, 5, span(one, one), one ^ 1, NONE, span(one, one));
            narrow(1, 5, span(one, one), one ^ MIN, NONE, span(one, one));
        }
    }

    // "with sign <, <=: its high is at most k - 1, k; >, >=: its low is at least k + 1, k"
    private static void orders() {
        int[][] greater = {{6, 13}, {2, 11}};
        int[][] atLeast = {{7, 12}, {3, 10}};
        for (int without = 0; without < 2; without++) {
            int[] g = greater[without];
            int[] a = atLeast[without];
            // All of D not below 0: with sign and without are the same.
            long[] d = span(3, 9);
            narrow(g[0], g[1], d, 2, d, NONE);
            narrow(g[0], g[1], d, 3, span(4, 9), span(3, 3));
            narrow(g[0], g[1], d, 8, span(9, 9), span(3, 8));
            narrow(g[0], g[1], d, 9, NONE, d);
            narrow(g[0], g[1], d, 10, NONE, d);
            narrow(a[0], a[1], d, 2, d, NONE);
            narrow(a[0], a[1], d, 3, d, NONE);
            narrow(a[0], a[1], d, 4, span(4, 9), span(3, 3));
            narrow(a[0], a[1], d, 9, span(9, 9), span(3, 8));
            narrow(a[0], a[1], d, 10, NONE, d);
            narrow(g[0], g[1], span(0, MAX), MAX, NONE, span(0, MAX));
            narrow(g[0], g[1], span(0, MAX), MAX - 1, span(MAX, MAX), span(0, MAX - 1));
            narrow(a[0], a[1], span(0, MAX), MAX, span(MAX, MAX), span(0, MAX - 1));
            narrow(g[0], g[1], span(0, 9), 0, span(1, 9), span(0, 0));
            narrow(a[0], a[1], span(0, 9), 0, span(0, 9), NONE);
            narrow(g[0], g[1], span(5, 5), 4, span(5, 5), NONE);
            narrow(g[0], g[1], span(5, 5), 5, NONE, span(5, 5));
            narrow(a[0], a[1], span(5, 5), 5, span(5, 5), NONE);
            narrow(a[0], a[1], span(5, 5), 6, NONE, span(5, 5));
        }
        withSign();
        withoutSign();
    }

    private static void withSign() {
        long[] d = span(-3, 4);
        narrow(6, 13, d, -4, d, NONE);
        narrow(6, 13, d, -3, span(-2, 4), span(-3, -3));
        narrow(6, 13, d, -1, span(0, 4), span(-3, -1));
        narrow(6, 13, d, 3, span(4, 4), span(-3, 3));
        narrow(6, 13, d, 4, NONE, d);
        narrow(7, 12, d, -3, d, NONE);
        narrow(7, 12, d, -2, span(-2, 4), span(-3, -3));
        narrow(7, 12, d, 0, span(0, 4), span(-3, -1));
        narrow(7, 12, d, 4, span(4, 4), span(-3, 3));
        narrow(7, 12, d, 5, NONE, d);
        long[] all = span(MIN, MAX);
        narrow(6, 13, all, MAX, NONE, all);
        narrow(6, 13, all, MAX - 1, span(MAX, MAX), span(MIN, MAX - 1));
        narrow(6, 13, all, MIN, span(MIN + 1, MAX), span(MIN, MIN));
        narrow(7, 12, all, MIN, all, NONE);
        narrow(7, 12, all, MIN + 1, span(MIN + 1, MAX), span(MIN, MIN));
        narrow(7, 12, all, MAX, span(MAX, MAX), span(MIN, MAX - 1));
        narrow(6, 13, span(MIN, MIN), MIN, NONE, span(MIN, MIN));
        narrow(7, 12, span(MAX, MAX), MAX, span(MAX, MAX), NONE);
        narrow(6, 13, span(MAX, MAX), MAX, NONE, span(MAX, MAX));
        narrow(7, 12, span(MIN, MIN), MIN, span(MIN, MIN), NONE);
    }

    // "else, k not below 0, <, <=: its low is at least 0, its high at most k - 1, k; else nothing"
    private static void withoutSign() {
        long[] d = span(-1, 4);
        narrow(2, 11, d, -1, d, d);
        narrow(2, 11, d, 0, d, span(0, 0));
        narrow(2, 11, d, 1, d, span(0, 1));
        narrow(2, 11, d, 3, d, span(0, 3));
        narrow(2, 11, d, 4, d, span(0, 4));
        narrow(2, 11, d, 5, d, span(0, 4));
        narrow(3, 10, d, -1, d, d);
        narrow(3, 10, d, 0, d, NONE);
        narrow(3, 10, d, 1, d, span(0, 0));
        narrow(3, 10, d, 4, d, span(0, 3));
        narrow(3, 10, d, 5, d, span(0, 4));
        // k below 0 narrows nothing, also where D is not below 0.
        for (long k : new long[] {MIN, -5, -1}) {
            narrow(2, 11, span(0, 4), k, span(0, 4), span(0, 4));
            narrow(3, 10, span(0, 4), k, span(0, 4), span(0, 4));
            narrow(2, 11, span(-5, -5), k, span(-5, -5), span(-5, -5));
            narrow(3, 10, span(MIN, MAX), k, span(MIN, MAX), span(MIN, MAX));
        }
        narrow(2, 11, span(-5, -1), 0, span(-5, -1), NONE);
        narrow(2, 11, span(-5, -1), MAX, span(-5, -1), NONE);
        narrow(3, 10, span(-5, -1), MAX, span(-5, -1), NONE);
        narrow(2, 11, span(-5, 0), 0, span(-5, 0), span(0, 0));
        narrow(3, 10, span(-5, 0), 1, span(-5, 0), span(0, 0));
        narrow(2, 11, span(MIN, MAX), MAX, span(MIN, MAX), span(0, MAX));
        narrow(3, 10, span(MIN, MAX), MAX, span(MIN, MAX), span(0, MAX - 1));
        narrow(3, 10, span(MIN, MAX), 0, span(MIN, MAX), NONE);
    }

    // "all else is gone both ways (4, 32 bits, operands of more than one number narrow nothing)"
    private static void narrowsNothing() {
        for (long k : new long[] {0, 1, 5, -1}) {
            narrowOne(4, span(0, 0), k, span(0, 0), span(0, 0));
            narrowOne(4, span(5, 5), k, span(5, 5), span(5, 5));
            narrowOne(4, span(-3, 9), k, span(-3, 9), span(-3, 9));
        }
        for (int relation : new int[] {1, 2, 3, 4, 5, 6, 7, 10, 11, 12, 13}) {
            for (int k = 4; k <= 6; k++) {
                dueBoth("32 bits", of(Asm.set(0, 0), Asm.set(2, 5)), Asm.when32(relation, 2, k, 1), 5, 5);
                dueBoth("32 bits, S", of(Asm.set(0, 0), Asm.set(2, 5), Asm.set(3, k)),
                    Asm.when32S(relation, 2, 3, 1), 5, 5);
            }
            dueBoth("more than one", of(Asm.set(0, 0), Asm.set(2, 5)).span(3, 7, 8), Asm.whenS(relation, 2, 3, 1), 5,
                5);
            dueBoth("D and D", of(Asm.set(0, 0)).span(2, 7, 8), Asm.whenS(relation, 2, 2, 1), 7, 8);
        }
        // Where both ways come to the same WORD they are joined again.
        dueState("both ways at once", 1, new Program().span(2, 3, 9).add(Asm.when(1, 2, 3, 0)), 2, NUMBER, 3, 9);
        dueState("one way alone", 1, new Program().span(2, 3, 9).add(Asm.when(2, 2, 9, 0)), 2, NUMBER, 3, 9);
        dueState("neither end is in", 1, new Program().span(2, -3, 9).add(Asm.when(10, 2, 5, 0)), 2, NUMBER, -3, 9);
        due("a way that is not gone is not looked at", 0, 1, of(Asm.set(2, 5), Asm.when(1, 2, 5, 1),
            Asm.alu(0, 8, 1)));
        due("a way that is gone is", 6, 1, of(Asm.set(2, 5), Asm.when(1, 2, 6, 1), Asm.alu(0, 8, 1)));
    }

    private static void dueBoth(String what, Program program, long condition, long low, long high) {
        int at = program.size();
        WordJudge x = program.add(condition, Asm.EXIT).ended(1);
        CHECK.due(what, x.verify(), 0);
        dueStateAt(what + ": goes", x, at + 2, 2, NUMBER, low, high);
        dueStateAt(what + ": goes on", x, at + 1, 2, NUMBER, low, high);
    }

    public static void main(String[] args) {
        moves();
        otherPointers();
        nones();
        contextEnds();
        stackEnds();
        octetsSet();
        aligned();
        readingKept();
        overwriting();
        exits();
        joins();
        joinsOfStack(-512);
        joinsOfStack(-256);
        joinsOfStack(-8);
        again();
        equals();
        orders();
        narrowsNothing();
        CHECK.end();
    }
}
