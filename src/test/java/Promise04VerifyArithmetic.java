/** What arithmetic makes of what is known. */
public final class Promise04VerifyArithmetic extends Checks {
    /** Register 6 gets SCALAR 0..255, register 7 SCALAR 0..1. */
    private static final int[][] BYTE_AND_BIT = rows(mov(6, 0), jumpReg(JGE, 1, 2, 1), loadByte(6, 1, 0),
        mov(1, 0), delete(0), movReg(7, 0));

    public static void main(String[] args) {
        constants();
        fresh();
        intervals();
        fresh();
        shifts();
        fresh();
        unset();
        pointers();
        fresh();
        kinds();
        finish();
    }

    private static void constant(String what, int operation, int first, int second, long least, long most, long answer) {
        answers(what, least, most, answer, mov(0, first), imm(operation, 0, second), exit());
        answers(what + " by register", least, most, answer, mov(0, first), mov(4, second), reg(operation, 0, 4), exit());
    }

    private static void constants() {
        constant("ADD", ADD, 7, 8, 15, 15, 15);
        constant("ADD to the top", ADD, -2, 1, TOP, TOP, TOP);
        constant("ADD over the top", ADD, -1, 1, 0, TOP, 0);
        constant("ADD of -1", ADD, 5, -1, 0, TOP, 4);
        constant("SUB", SUB, 8, 7, 1, 1, 1);
        constant("SUB to 0", SUB, 8, 8, 0, 0, 0);
        constant("SUB below 0", SUB, 7, 8, 0, TOP, TOP);
        constant("MUL", MUL, 65535, 65537, TOP, TOP, TOP);
        constant("MUL over the top", MUL, 65536, 65536, 0, TOP, 0);
        constant("MUL of the greatest", MUL, -1, -1, 0, TOP, 1);
        constant("MUL over a long", MUL, -1, -2147483647, 0, TOP, 2147483647L);
        constant("MUL with 0", MUL, -1, 0, 0, 0, 0);
        constant("AND", AND, 12, 10, 0, 10, 8);
        constant("AND the other way", AND, 10, 12, 0, 10, 8);
        constant("OR", OR, 12, 3, 12, 15, 15);
        constant("OR of a power", OR, 16, 1, 16, 31, 17);
        constant("OR of ones", OR, 15, 8, 15, 15, 15);
        constant("OR of 0 and 0", OR, 0, 0, 0, 0, 0);
        constant("OR of 1 and 0", OR, 1, 0, 1, 1, 1);
        constant("OR of the greatest", OR, 0, -1, TOP, TOP, TOP);
        constant("OR of the highest bit", OR, 5, Integer.MIN_VALUE, 2147483648L, TOP, 2147483653L);
        answers("MOV of a word", 4294967286L, 4294967286L, 4294967286L, mov(0, -10), exit());
        answers("MOV of a register", 3, 3, 3, mov(4, 3), movReg(0, 4), exit());
    }

    private static void interval(String what, long least, long most, int[]... rows) {
        passes(what, least, most, join(join(BYTE_AND_BIT, rows), exit()));
    }

    private static void intervals() {
        interval("ADD", 0, 256, reg(ADD, 0, 6));
        interval("ADD of one", 10, 265, movReg(0, 6), imm(ADD, 0, 10));
        interval("SUB may go below 0", 0, TOP, movReg(0, 6), reg(SUB, 0, 7));
        interval("SUB stays above", 0, 256, mov(0, 1), reg(SUB, 0, 7), reg(ADD, 0, 6));
        interval("SUB lo-hi..hi-lo", 45, 300, mov(0, 300), reg(SUB, 0, 6));
        interval("SUB of itself", 0, 0, mov(0, 9), reg(SUB, 0, 0));
        interval("SUB of itself by intervals", 745, 1255, movReg(0, 6), imm(ADD, 0, 1000), reg(SUB, 0, 6));
        interval("MUL", 0, 65025, movReg(0, 6), reg(MUL, 0, 6));
        interval("MUL by a constant", 0, 2550, movReg(0, 6), imm(MUL, 0, 10));
        interval("MUL over the top", 0, TOP, movReg(0, 6), imm(ADD, 0, 2), imm(MUL, 0, 50000000));
        interval("AND", 0, 1, movReg(0, 6), reg(AND, 0, 7));
        interval("AND with more", 0, 255, movReg(0, 6), imm(AND, 0, -1));
        interval("OR", 0, 255, reg(OR, 0, 6));
        interval("OR of the greater lo", 256, 511, movReg(0, 6), imm(OR, 0, 256));
        interval("OR with itself", 100, 511, movReg(0, 6), imm(ADD, 0, 100), reg(OR, 0, 0));
        interval("ADD at the top", 0, TOP, mov(0, -1), reg(ADD, 0, 7));
        interval("ADD just at the top", TOP - 1, TOP, mov(0, -2), reg(ADD, 0, 7));
    }

    private static void shifts() {
        constant("SHR by 0", SHR, -1, 0, TOP, TOP, TOP);
        constant("SHR by 31", SHR, -1, 31, 1, 1, 1);
        constant("SHR by 4", SHR, 100, 4, 6, 6, 6);
        answers("SHR by 32 of a register", 100, 100, 100, mov(0, 100), mov(4, 32), reg(SHR, 0, 4), exit());
        answers("SHR by 35", 12, 12, 12, mov(0, 100), mov(4, 35), reg(SHR, 0, 4), exit());
        answers("SHR by -1", 1, 1, 1, mov(0, -1), mov(4, -1), reg(SHR, 0, 4), exit());
        interval("SHR of an interval", 0, 31, movReg(0, 6), imm(SHR, 0, 3));
        interval("SHR of a higher interval", 62, 94, movReg(0, 6), imm(ADD, 0, 500), imm(SHR, 0, 3));
        interval("SHR by an interval", 0, 100, mov(0, 100), reg(SHR, 0, 7));
        interval("SHR of an interval by one", 0, 755, movReg(0, 6), imm(ADD, 0, 500), reg(SHR, 0, 7));
    }

    private static void unset() {
        refused("MOV s", UNSET, 0, movReg(0, 5), exit());
        refused("MOV of itself", UNSET, 0, movReg(0, 0), exit());
        for (int operation = ADD; operation <= SHR; operation++) {
            refused("d with imm", UNSET, 0, imm(operation, 5, 1), exit());
            refused("d with s", UNSET, 1, mov(0, 0), reg(operation, 5, 0), exit());
            refused("s", UNSET, 1, mov(0, 0), reg(operation, 0, 5), exit());
            refused("s before KIND of d", UNSET, 0, reg(operation, 1, 5), exit());
            refused("d before KIND of s", UNSET, 0, reg(operation, 5, FRAME), exit());
        }
    }

    private static void pointers() {
        refused("PACKET up to 255", KIND, 5, movReg(3, 1), imm(ADD, 3, 255), mov(0, 5), imm(ADD, 3, 0), imm(ADD, 0, 0),
            imm(ADD, 3, 1), exit());
        refused("PACKET over 255", KIND, 0, imm(ADD, 1, 256), exit());
        refused("PACKET by a great word", KIND, 0, imm(ADD, 1, -1), exit());
        refused("PACKET and SUB", KIND, 0, imm(SUB, 1, 0), exit());
        refused("PACKET behind a SCALAR", KIND, 1, mov(0, 0), reg(ADD, 0, 1), exit());
        refused("END and ADD", KIND, 0, imm(ADD, 2, 0), exit());
        passes("FRAME up and down by 100", 0, 0, movReg(3, FRAME), imm(ADD, 3, 100), imm(SUB, 3, 100), mov(0, 0), exit());
        refused("FRAME by 101", KIND, 1, movReg(3, FRAME), imm(ADD, 3, 101), exit());
        refused("FRAME down by 101", KIND, 1, movReg(3, FRAME), imm(SUB, 3, 101), exit());
        refused("FRAME by -1", KIND, 1, movReg(3, FRAME), imm(ADD, 3, -1), exit());
        for (int operation = MUL; operation <= SHR; operation++) {
            refused("FRAME and " + operation, KIND, 1, movReg(3, FRAME), imm(operation, 3, 1), exit());
            refused("PACKET and " + operation, KIND, 0, imm(operation, 1, 0), exit());
        }
        refused("FRAME by an interval", KIND, 3, mov(1, 0), delete(0), movReg(3, FRAME), reg(ADD, 3, 0), exit());
        refused("FRAME and FRAME", KIND, 1, movReg(3, FRAME), reg(SUB, 3, FRAME), exit());
    }

    private static void kinds() {
        int[][] maybe = rows(mov(1, 5), lookup(0), movReg(6, 0));
        refused("MAYBE and ADD", KIND, 3, join(maybe, imm(ADD, 6, 0), exit()));
        refused("MAYBE as s", KIND, 4, join(maybe, mov(0, 1), reg(ADD, 0, 6), exit()));
        int[][] value = join(maybe, jump(JNE, 6, 0, 2), mov(0, 0), exit());
        passes("VALUE up and down", 0, TOP, join(value, imm(ADD, 6, 100), imm(SUB, 6, 99), load(0, 6, 0), exit()));
        refused("VALUE by 101", KIND, 6, join(value, imm(ADD, 6, 101), exit()));
        refused("VALUE and MUL", KIND, 6, join(value, imm(MUL, 6, 1), exit()));
        passes("pointers are copied", 1, 1, movReg(3, 1), movReg(4, 2), movReg(5, FRAME), mov(0, 1), exit());
        refused("END copied is END", KIND, 1, movReg(4, 2), imm(ADD, 4, 1), exit());
        refused("EXIT with PACKET", KIND, 1, movReg(0, 1), exit());
        refused("EXIT with FRAME", KIND, 1, movReg(0, FRAME), exit());
        refused("EXIT with VALUE", KIND, 7, join(value, movReg(0, 6), exit()));
        refused("EXIT with MAYBE", KIND, 3, join(maybe, exit()));
        refused("EXIT with nothing", UNSET, 0, exit());
    }
}
