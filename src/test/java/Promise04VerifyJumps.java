/** Which ways of a conditional jump are followed, and what is known on them. */
public final class Promise04VerifyJumps extends Checks {
    /** Gives SCALARs on a single path: register 0 100..355, 4 355..356, 5 0..100, 6 100..101, 7 0..1. */
    private static final int[][] START = rows(mov(1, 0), delete(0), movReg(7, 0),
        imm(MUL, 0, 255), imm(ADD, 0, 100), movReg(6, 7), imm(ADD, 6, 100),
        movReg(5, 0), imm(AND, 5, 100), movReg(4, 7), imm(ADD, 4, 355));

    public static void main(String[] args) {
        cuts();
        fresh();
        unfollowed();
        fresh();
        intervals();
        fresh();
        maybe();
        fresh();
        packet();
        fresh();
        kinds();
        finish();
    }

    /** The ends of register 0 on the next instruction's way, then on the jump's way (which leaps one instruction). */
    private static void ways(String what, int[] jump, long nextLeast, long nextMost, long goalLeast, long goalMost) {
        fresh();
        // The other way's answer is once the one end and once the other, so that it hides neither.
        for (long end : new long[] {nextLeast, nextMost}) {
            passes(what + ", next", nextLeast, nextMost, join(START, jump, ja(1), mov(0, (int) end), exit()));
        }
        for (long end : new long[] {goalLeast, goalMost}) {
            passes(what + ", goal", goalLeast, goalMost, join(START, jump, mov(0, (int) end), exit()));
        }
    }

    private static void cuts() {
        ways("JEQ inside", jump(JEQ, 0, 200, 1), 100, 355, 200, 200);
        ways("JEQ at lo", jump(JEQ, 0, 100, 1), 101, 355, 100, 100);
        ways("JEQ at hi", jump(JEQ, 0, 355, 1), 100, 354, 355, 355);
        ways("JNE inside", jump(JNE, 0, 200, 1), 200, 200, 100, 355);
        ways("JNE at lo", jump(JNE, 0, 100, 1), 100, 100, 101, 355);
        ways("JNE at hi", jump(JNE, 0, 355, 1), 355, 355, 100, 354);
        ways("JLT inside", jump(JLT, 0, 200, 1), 200, 355, 100, 199);
        ways("JLT just above lo", jump(JLT, 0, 101, 1), 101, 355, 100, 100);
        ways("JLT at hi", jump(JLT, 0, 355, 1), 355, 355, 100, 354);
        ways("JGE inside", jump(JGE, 0, 200, 1), 100, 199, 200, 355);
        ways("JGE just above lo", jump(JGE, 0, 101, 1), 100, 100, 101, 355);
        ways("JGE at hi", jump(JGE, 0, 355, 1), 100, 354, 355, 355);
    }

    private static void only(String what, boolean jumps, int[] jump) {
        if (jumps) {
            refused(what, DEAD, START.length + 1, join(START, jump, mov(0, 9), exit()));
        } else {
            refused(what, DEAD, START.length + 3, join(START, jump, mov(0, 9), exit(), mov(0, 8), exit()));
        }
    }

    private static void unfollowed() {
        only("JEQ below", false, jump(JEQ, 0, 99, 2));
        only("JEQ above", false, jump(JEQ, 0, 356, 2));
        only("JNE below", true, jump(JNE, 0, 99, 1));
        only("JNE above", true, jump(JNE, 0, 356, 1));
        only("JLT at lo", false, jump(JLT, 0, 100, 2));
        only("JLT above", true, jump(JLT, 0, 356, 1));
        only("JLT -1 is a great word", true, jump(JLT, 0, -1, 1));
        only("JGE at lo", true, jump(JGE, 0, 100, 1));
        only("JGE above", false, jump(JGE, 0, 356, 2));
        only("JGE -1 is a great word", false, jump(JGE, 0, -1, 2));
        only("JLT 0", false, jump(JLT, 7, 0, 2));
        only("JGE 0", true, jump(JGE, 7, 0, 1));
        only("registers apart, JEQ", false, jumpReg(JEQ, 7, 0, 2));
        only("registers apart, JNE", true, jumpReg(JNE, 7, 0, 1));
        only("registers apart, JLT", true, jumpReg(JLT, 7, 6, 1));
        only("registers apart, JGE", true, jumpReg(JGE, 6, 7, 1));
        refused("equal constants", DEAD, 3, mov(0, 4), mov(3, 4), jumpReg(JEQ, 0, 3, 1), mov(0, 9), exit());
        refused("equal constants, JNE", DEAD, 5, mov(0, 4), mov(3, 4), jumpReg(JNE, 0, 3, 2), mov(0, 9), exit(), exit());
    }

    private static void intervals() {
        // The second one is no single word: both ways, and nothing is cut.
        ways("JEQ of intervals", jumpReg(JEQ, 0, 6, 1), 100, 355, 100, 355);
        ways("JNE of intervals", jumpReg(JNE, 0, 6, 1), 100, 355, 100, 355);
        ways("JLT of intervals", jumpReg(JLT, 0, 6, 1), 100, 355, 100, 355);
        ways("JGE of intervals", jumpReg(JGE, 0, 6, 1), 100, 355, 100, 355);
        ways("JEQ that only touches at lo", jumpReg(JEQ, 0, 5, 1), 100, 355, 100, 355);
        ways("JEQ that only touches at hi", jumpReg(JEQ, 0, 4, 1), 100, 355, 100, 355);
        ways("JGE that only touches at hi", jumpReg(JGE, 0, 4, 1), 100, 355, 100, 355);
        ways("JNE that only touches at lo", jumpReg(JNE, 0, 5, 1), 100, 355, 100, 355);
        ways("JLT of itself", jumpReg(JLT, 0, 0, 1), 100, 355, 100, 355);
        passes("a single word and an interval from it on may differ", 100, 5000,
            join(START, mov(3, 100), jumpReg(JEQ, 3, 6, 1), mov(0, 5000), exit()));
        passes("a single word and an interval up to it may differ", 100, 5000,
            join(START, mov(3, 100), jumpReg(JEQ, 3, 5, 1), mov(0, 5000), exit()));
        passes("the first one is single: nothing is cut", 100, 355,
            join(START, mov(4, 100), jumpReg(JEQ, 4, 0, 0), exit()));
        passes("a copy is not cut", 100, 355, join(START, movReg(4, 0), jump(JEQ, 4, 100, 1), mov(0, 101), exit()));
        passes("a single word in a register cuts", 100, 101,
            join(START, mov(4, 102), jumpReg(JLT, 0, 4, 1), mov(0, 100), exit()));
        refused("the cut of a single word is single", DEAD, START.length + 2,
            join(START, jump(JNE, 0, 120, 2), jump(JEQ, 0, 120, 1), mov(0, 1), exit()));
    }

    private static void maybe() {
        int[][] maybe = rows(mov(1, 5), lookup(0), movReg(6, 0), movReg(7, FRAME), store(7, 0, 3));
        passes("JEQ 0: all copies are 0 there", 0, 7, join(maybe,
            jump(JEQ, 6, 0, 2), mov(0, 7), exit(), load(0, FRAME, 3), exit()));
        passes("JEQ 0: all copies are VALUE else", 0, TOP, join(maybe,
            jump(JEQ, 6, 0, 3), load(3, FRAME, 3), load(0, 3, 1), exit(), exit()));
        passes("JNE 0", 0, TOP, join(maybe, jump(JNE, 0, 0, 1), exit(), load(4, 6, 0), load(3, FRAME, 3), load(0, 3, 1), exit()));
        passes("a register with 0", 0, TOP, join(maybe, mov(4, 0), jumpReg(JNE, 0, 4, 1), exit(), load(0, 0, 0), exit()));
        refused("a register with 0..1", KIND, 9, mov(1, 5), delete(0), movReg(7, 0), mov(1, 5), lookup(0), movReg(6, 0),
            mov(0, 0), imm(ADD, 0, 0), ja(0), jumpReg(JEQ, 6, 7, 0), exit());
        refused("1", KIND, 5, join(maybe, jump(JEQ, 0, 1, 0), exit()));
        refused("JLT", KIND, 5, join(maybe, jump(JLT, 0, 0, 0), exit()));
        refused("JGE", KIND, 5, join(maybe, jump(JGE, 0, 0, 0), exit()));
        refused("MAYBE as the second", KIND, 6, join(maybe, mov(4, 0), jumpReg(JEQ, 4, 0, 0), exit()));
        refused("MAYBE twice", KIND, 5, join(maybe, jumpReg(JEQ, 0, 6, 0), exit()));
        refused("VALUE has no second test", KIND, 7, join(maybe, jump(JNE, 0, 0, 1), exit(), jump(JNE, 0, 0, 0), exit()));
        refused("it is not 0 on the next way", KIND, 6, join(maybe, jump(JEQ, 6, 0, 1), exit(), exit()));
    }

    private static void packet() {
        int[][] three = rows(mov(0, 0), movReg(3, 1), imm(ADD, 3, 3));
        passes("packet + 3 < end: 4 bytes", 0, 255, join(three, jumpReg(JGE, 3, 2, 1), loadByte(0, 1, 3), exit()));
        refused("not 5", BOUNDS, 4, join(three, jumpReg(JGE, 3, 2, 1), loadByte(0, 1, 4), exit()));
        passes("JLT", 0, 255, join(three, jumpReg(JLT, 3, 2, 1), exit(), loadByte(0, 1, 3), exit()));
        refused("JLT, not 5", BOUNDS, 5, join(three, jumpReg(JLT, 3, 2, 1), exit(), loadByte(0, 1, 4), exit()));
        refused("nothing where it is not <", BOUNDS, 4, join(three, jumpReg(JLT, 3, 2, 0), loadByte(0, 1, 0), exit()));
        refused("nothing where it is not <, JGE", BOUNDS, 5, join(three, jumpReg(JGE, 3, 2, 1), exit(), loadByte(0, 1, 0), exit()));
        passes("end >= packet + 3: 3 bytes", 0, 255, join(three, jumpReg(JLT, 2, 3, 1), loadByte(0, 1, 2), exit()));
        refused("not 4", BOUNDS, 4, join(three, jumpReg(JLT, 2, 3, 1), loadByte(0, 1, 3), exit()));
        passes("JGE: 3 bytes", 0, 255, join(three, jumpReg(JGE, 2, 3, 1), exit(), loadByte(0, 1, 2), exit()));
        refused("JGE, not 4", BOUNDS, 5, join(three, jumpReg(JGE, 2, 3, 1), exit(), loadByte(0, 1, 3), exit()));
        refused("nothing where end <", BOUNDS, 5, join(three, jumpReg(JLT, 2, 3, 1), exit(), loadByte(0, 1, 0), exit()));
        refused("end >= packet: 0 bytes", BOUNDS, 2, mov(0, 0), jumpReg(JLT, 2, 1, 1), loadByte(0, 1, 0), exit());
        passes("a lesser test takes nothing back", 0, 255, join(three,
            jumpReg(JGE, 3, 2, 2), jumpReg(JGE, 1, 2, 1), loadByte(0, 1, 3), exit()));
        passes("SAFE goes along both ways", 0, 255, join(three,
            jumpReg(JGE, 3, 2, 2), jumpReg(JGE, 1, 2, 0), loadByte(0, 1, 3), exit()));
        passes("each way has its own", 0, 255, join(three, jumpReg(JGE, 3, 2, 2), loadByte(0, 1, 3), exit(),
            jumpReg(JGE, 1, 2, 1), loadByte(0, 1, 0), exit()));
        refused("the other way did not learn it", BOUNDS, 6, join(three, jumpReg(JGE, 3, 2, 2), loadByte(0, 1, 3), exit(),
            loadByte(0, 1, 0), exit()));
    }

    private static void kinds() {
        for (int op = JEQ; op <= JGE; op++) {
            refused("PACKET and SCALAR", KIND, 0, jump(op, 1, 0, 0), exit());
            refused("END and SCALAR", KIND, 0, jump(op, 2, 0, 0), exit());
            refused("PACKET and PACKET", KIND, 0, jumpReg(op, 1, 1, 0), exit());
            refused("END and END", KIND, 0, jumpReg(op, 2, 2, 0), exit());
            refused("FRAME and FRAME", KIND, 1, movReg(3, FRAME), jumpReg(op, 3, FRAME, 0), exit());
            refused("SCALAR and FRAME", KIND, 1, mov(3, 0), jumpReg(op, 3, FRAME, 0), exit());
            refused("SCALAR and PACKET", KIND, 1, mov(3, 0), jumpReg(op, 3, 1, 0), exit());
            refused("d is not set", UNSET, 0, jump(op, 3, 0, 0), exit());
            refused("s is not set", UNSET, 1, mov(3, 0), jumpReg(op, 3, 4, 0), exit());
        }
        refused("PACKET and END with JEQ", KIND, 0, jumpReg(JEQ, 1, 2, 0), exit());
        refused("PACKET and END with JNE", KIND, 0, jumpReg(JNE, 1, 2, 0), exit());
        refused("END and PACKET with JEQ", KIND, 0, jumpReg(JEQ, 2, 1, 0), exit());
        refused("END and PACKET with JNE", KIND, 0, jumpReg(JNE, 2, 1, 0), exit());
    }
}
