import java.util.ArrayList;
import java.util.List;

/** CODE that is made WORD by WORD. */
final class Program {
    private final List<Long> words = new ArrayList<>();

    Program add(long... more) {
        for (long w : more) {
            words.add(w);
        }
        return this;
    }

    /** The register is just one number. */
    Program number(int register, long v) {
        return add(Asm.wide(register, v), Asm.second(v));
    }

    /** The register is a NUMBER from low to high: two ways that meet. R9 and octet 0 of the CONTEXT choose. */
    Program span(int register, long low, long high) {
        number(register, low);
        if (low != high) {
            add(Asm.read(1, 9, 1, 0), Asm.when32(1, 9, 0, 2)).number(register, high);
        }
        return this;
    }

    /** Two ways that meet, the first with the WORDS of one, the second with those of two. */
    Program either(long[] one, long[] two) {
        add(Asm.read(1, 9, 1, 0), Asm.when32(1, 9, 0, one.length + 1));
        return add(one).add(Asm.go(two.length)).add(two);
    }

    /** How many WORDS there are: the next one's number. */
    int size() {
        return words.size();
    }

    long[] all() {
        long[] code = new long[words.size()];
        for (int k = 0; k < code.length; k++) {
            code[k] = words.get(k);
        }
        return code;
    }

    /** An object with this CODE and an end behind it that every way may come to. */
    WordJudge ended(int context) {
        Program whole = new Program().add(all()).add(Asm.set(0, 0), Asm.EXIT);
        return Asm.judge(context, whole.all());
    }
}
