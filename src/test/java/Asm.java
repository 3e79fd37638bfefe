/** Puts WORDS together. */
final class Asm {
    static final long EXIT = 0x95;

    private Asm() {
    }

    static long word(int op, int d, int s, int off, int imm) {
        return op & 255L | (d & 15L) << 8 | (s & 15L) << 12 | (off & 0xFFFFL) << 16 | (long) imm << 32;
    }

    /** 64 bits, of the operand IMM. */
    static long alu(int kind, int d, int imm) {
        return word(kind << 4 | 7, d, 0, 0, imm);
    }

    /** 64 bits, of the operand register S. */
    static long aluS(int kind, int d, int s) {
        return word(kind << 4 | 15, d, s, 0, 0);
    }

    static long alu32(int kind, int d, int imm) {
        return word(kind << 4 | 4, d, 0, 0, imm);
    }

    static long alu32S(int kind, int d, int s) {
        return word(kind << 4 | 12, d, s, 0, 0);
    }

    static long set(int d, int imm) {
        return alu(11, d, imm);
    }

    static long move(int d, int s) {
        return aluS(11, d, s);
    }

    static long go(int off) {
        return word(5, 0, 0, off, 0);
    }

    static long when(int kind, int d, int imm, int off) {
        return word(kind << 4 | 5, d, 0, off, imm);
    }

    static long whenS(int kind, int d, int s, int off) {
        return word(kind << 4 | 13, d, s, off, 0);
    }

    static long when32(int kind, int d, int imm, int off) {
        return word(kind << 4 | 6, d, 0, off, imm);
    }

    static long when32S(int kind, int d, int s, int off) {
        return word(kind << 4 | 14, d, s, off, 0);
    }

    private static int sizeBits(int size) {
        return size == 4 ? 0x60 : size == 2 ? 0x68 : size == 1 ? 0x70 : 0x78;
    }

    static long read(int size, int d, int s, int off) {
        return word(sizeBits(size) | 1, d, s, off, 0);
    }

    static long store(int size, int d, int off, int s) {
        return word(sizeBits(size) | 3, d, s, off, 0);
    }

    static long storeImm(int size, int d, int off, int imm) {
        return word(sizeBits(size) | 2, d, 0, off, imm);
    }

    /** The first WORD of 0x18; second gives the one behind it. */
    static long wide(int d, long v) {
        return word(0x18, d, 0, 0, (int) v);
    }

    static long second(long v) {
        return v >>> 32 << 32;
    }

    static WordJudge judge(int context, long... words) {
        WordJudge x = new WordJudge();
        x.context(context);
        load(x, words);
        return x;
    }

    static void load(WordJudge x, long... words) {
        x.cut(0);
        for (int k = 0; k < words.length; k++) {
            x.word(k, words[k]);
        }
    }
}
