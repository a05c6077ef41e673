/** LOAD, STORE, LOADB: pointers, cells and bytes. */
public final class Promise04VerifyMemory extends Checks {
    private static final int[][] VALUE = rows(mov(1, 5), lookup(0), jump(JNE, 0, 0, 1), exit());

    public static void main(String[] args) {
        stack();
        fresh();
        offsets();
        fresh();
        values();
        fresh();
        bytes();
        fresh();
        orderOfTests();
        finish();
    }

    private static void stack() {
        for (int cell = 0; cell < 6; cell++) {
            answers("cell " + cell, 40 + cell, 40 + cell, 40 + cell,
                movReg(5, FRAME), mov(3, 40 + cell), store(5, 3, cell), load(0, FRAME, cell), exit());
            refused("cell " + cell + " is not set", UNSET, 0, load(0, FRAME, cell), exit());
        }
        refused("its neighbour is not set", UNSET, 3,
            movReg(5, FRAME), mov(3, 1), store(5, 3, 2), load(0, FRAME, 3), exit());
        refused("cell 6", BOUNDS, 0, load(0, FRAME, 6), exit());
        refused("cell -1", BOUNDS, 0, load(0, FRAME, -1), exit());
        refused("STORE, cell 6", BOUNDS, 1, movReg(5, FRAME), store(5, 5, 6), exit());
        refused("STORE, cell -1", BOUNDS, 1, movReg(5, FRAME), store(5, 5, -1), exit());
        answers("all kinds are kept", 0, 255, 9, movReg(5, FRAME), store(5, 1, 0), store(5, 2, 1), store(5, FRAME, 2),
            load(6, FRAME, 0), load(7, FRAME, 1), load(4, FRAME, 2), mov(0, 9), jumpReg(JGE, 6, 7, 1), loadByte(0, 6, 0),
            store(4, 0, 5), load(0, FRAME, 5), exit());
        passes("the latest store counts", 2, 2,
            movReg(5, FRAME), mov(3, 1), store(5, 3, 0), mov(3, 2), store(5, 3, 0), load(0, 5, 0), exit());
        passes("what is stored is a copy", 1, 1,
            movReg(5, FRAME), mov(3, 1), store(5, 3, 0), imm(ADD, 3, 2), load(0, 5, 0), exit());
        refused("a stored pointer is no answer", KIND, 3, movReg(5, FRAME), store(5, 1, 0), load(0, 5, 0), exit());
    }

    private static void offsets() {
        int[][] low = rows(movReg(5, FRAME), imm(SUB, 5, 100), mov(3, 8));
        answers("off 100", 8, 8, 8, join(low, store(5, 3, 100), load(0, 5, 100), exit()));
        answers("off 100, cell 5", 8, 8, 8, join(low, imm(ADD, 5, 5), store(5, 3, 100), load(0, FRAME, 5), exit()));
        refused("off 101", BOUNDS, 3, join(low, store(5, 3, 101), exit()));
        refused("off 99", BOUNDS, 3, join(low, store(5, 3, 99), exit()));
        refused("off 101 though the cell is there", BOUNDS, 4, join(low, imm(SUB, 5, 1), store(5, 3, 101), exit()));
        int[][] high = rows(movReg(5, FRAME), imm(ADD, 5, 100), mov(3, 8));
        answers("off -100", 8, 8, 8, join(high, store(5, 3, -100), load(0, 5, -100), exit()));
        refused("off -101 though the cell is there", BOUNDS, 4, join(high, imm(ADD, 5, 1), store(5, 3, -101), exit()));
        refused("LOAD, off -101", BOUNDS, 5, join(high, imm(ADD, 5, 1), store(5, 3, -99 - 1), load(0, 5, -101), exit()));
        refused("off least", BOUNDS, 0, load(0, FRAME, Integer.MIN_VALUE), exit());
        refused("off most", BOUNDS, 0, load(0, FRAME, Integer.MAX_VALUE), exit());
        refused("off most from a low cell", BOUNDS, 3, join(low, store(5, 3, Integer.MAX_VALUE), exit()));
        refused("off least from a high cell", BOUNDS, 3, join(high, store(5, 3, Integer.MIN_VALUE), exit()));
        answers("far and back", 8, 8, 8, join(high, imm(ADD, 5, 100), imm(ADD, 5, 100), imm(SUB, 5, 100), imm(SUB, 5, 100),
            imm(SUB, 5, 100), imm(SUB, 5, 95), store(5, 3, 95), load(0, FRAME, 0), exit()));
    }

    private static void values() {
        passes("cell 0", 0, TOP, join(VALUE, load(0, 0, 0), exit()));
        passes("cell 1", 0, TOP, join(VALUE, load(0, 0, 1), exit()));
        refused("cell 2", BOUNDS, 4, join(VALUE, load(0, 0, 2), exit()));
        refused("cell -1", BOUNDS, 4, join(VALUE, load(0, 0, -1), exit()));
        passes("moved", 0, TOP, join(VALUE, imm(ADD, 0, 100), load(0, 0, -100), exit()));
        refused("off -101", BOUNDS, 6, join(VALUE, imm(ADD, 0, 100), imm(ADD, 0, 1), load(0, 0, -101), exit()));
        passes("STORE of SCALAR", 0, TOP, join(VALUE, mov(3, 7), store(0, 3, 1), load(0, 0, 1), exit()));
        refused("STORE in cell 2", BOUNDS, 5, join(VALUE, mov(3, 7), store(0, 3, 2), exit()));
        refused("STORE of FRAME", KIND, 4, join(VALUE, store(0, FRAME, 0), exit()));
        refused("STORE of VALUE", KIND, 4, join(VALUE, store(0, 0, 0), exit()));
        refused("STORE of nothing", UNSET, 4, join(VALUE, store(0, 3, 0), exit()));
        refused("MAYBE is no pointer", KIND, 2, mov(1, 5), lookup(0), load(0, 0, 0), exit());
        refused("MAYBE is no pointer to store by", KIND, 3, mov(1, 5), lookup(0), mov(3, 1), store(0, 3, 0), exit());
        refused("STORE of PACKET", KIND, 6, movReg(6, 1), mov(1, 5), lookup(0), jump(JNE, 0, 0, 1), exit(),
            mov(3, 1), store(0, 6, 0), exit());
    }

    private static void bytes() {
        int[][] four = rows(mov(0, 0), movReg(3, 1), imm(ADD, 3, 4), jumpReg(JGE, 2, 3, 1), exit());
        packet(11, 12, 13, 14);
        for (int n = 0; n < 4; n++) {
            answers("byte " + n, 0, 255, 11 + n, join(four, loadByte(0, 1, n), exit()));
            answers("byte " + n + " from behind", 0, 255, 11 + n, join(four, loadByte(0, 3, n - 4), exit()));
        }
        refused("byte 4", BOUNDS, 5, join(four, loadByte(0, 1, 4), exit()));
        refused("byte -1", BOUNDS, 5, join(four, loadByte(0, 1, -1), exit()));
        refused("byte 4 from behind", BOUNDS, 5, join(four, loadByte(0, 3, 0), exit()));
        refused("byte -1 from behind", BOUNDS, 5, join(four, loadByte(0, 3, -5), exit()));
        refused("off 101", BOUNDS, 5, join(four, loadByte(0, 1, 101), exit()));
        refused("off most", BOUNDS, 5, join(four, loadByte(0, 1, Integer.MAX_VALUE), exit()));
        refused("off least", BOUNDS, 5, join(four, loadByte(0, 1, Integer.MIN_VALUE), exit()));
        refused("without a test", BOUNDS, 0, loadByte(0, 1, 0), exit());
        int[][] far = rows(mov(0, 0), movReg(3, 1), imm(ADD, 3, 200), jumpReg(JGE, 2, 3, 1), exit(), imm(SUB, 0, 0));
        passes("off -100", 0, 255, join(far, loadByte(0, 3, -100), exit()));
        refused("off -101", BOUNDS, 6, join(far, loadByte(0, 3, -101), exit()));
        passes("off 100", 0, 255, join(far, loadByte(0, 1, 100), exit()));
        refused("off 101 inside", BOUNDS, 6, join(far, loadByte(0, 1, 101), exit()));
        fresh();
        packet(1, 12, 13, 14);
        int[][] moved = join(four, loadByte(4, 1, 0), imm(AND, 4, 1), reg(ADD, 1, 4));
        answers("an interval of bytes", 0, 255, 14, join(moved, loadByte(0, 1, 2), exit()));
        refused("its hi goes over", BOUNDS, 8, join(moved, loadByte(0, 1, 3), exit()));
        refused("its lo goes below", BOUNDS, 8, join(moved, loadByte(0, 1, -1), exit()));
        passes("the test of an interval proves its lo", 0, 255, join(moved, imm(ADD, 1, 6), jumpReg(JLT, 1, 2, 1), exit(),
            loadByte(0, 1, -1), exit()));
        passes("end >= an interval proves its lo", 0, 255, join(moved, imm(ADD, 1, 6), jumpReg(JGE, 2, 1, 1), exit(),
            loadByte(0, 1, -2), exit()));
        refused("and no more than its lo", BOUNDS, 11, join(moved, imm(ADD, 1, 6), jumpReg(JGE, 2, 1, 1), exit(),
            loadByte(0, 1, -1), exit()));
        refused("and no more", BOUNDS, 11, join(moved, imm(ADD, 1, 6), jumpReg(JLT, 1, 2, 1), exit(),
            loadByte(0, 1, 0), exit()));
    }

    private static void orderOfTests() {
        refused("LOAD from nothing", UNSET, 0, load(0, 3, 200), exit());
        refused("LOAD from SCALAR", KIND, 1, mov(3, 0), load(0, 3, 200), exit());
        refused("LOAD from PACKET", KIND, 0, load(0, 1, 0), exit());
        refused("LOAD from END", KIND, 0, load(0, 2, 0), exit());
        refused("STORE by nothing", UNSET, 0, store(3, 1, 0), exit());
        refused("STORE of nothing by SCALAR", UNSET, 1, mov(3, 0), store(3, 4, 0), exit());
        refused("STORE of nothing out of bounds", UNSET, 1, movReg(3, FRAME), store(3, 4, 9), exit());
        refused("STORE by PACKET", KIND, 0, store(1, 1, 200), exit());
        refused("STORE into a VALUE: BOUNDS before KIND", BOUNDS, 4, join(VALUE, store(0, 0, 2), exit()));
        refused("LOADB from nothing", UNSET, 0, loadByte(0, 3, 0), exit());
        refused("LOADB from SCALAR", KIND, 1, mov(3, 0), loadByte(0, 3, 200), exit());
        refused("LOADB from END", KIND, 0, loadByte(0, 2, 200), exit());
        refused("LOADB from FRAME", KIND, 0, loadByte(0, FRAME, 0), exit());
        refused("LOADB from VALUE", KIND, 4, join(VALUE, loadByte(0, 0, 0), exit()));
        passes("d may be not set", 3, 3, movReg(5, FRAME), mov(3, 3), store(5, 3, 0), load(0, 5, 0), exit());
    }
}
