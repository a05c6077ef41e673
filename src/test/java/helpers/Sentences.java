/** For the tests that go through the document sentence by sentence: each draft is verified by a new object. */
class Sentences extends Checks {
    static final int LEAST_INT = Integer.MIN_VALUE, MOST_INT = Integer.MAX_VALUE;

    static void bad(String what, int fault, int place, int[]... rows) {
        fresh();
        refused(what, fault, place, rows);
    }

    static void good(String what, long least, long most, int[]... rows) {
        fresh();
        passes(what, least, most, rows);
    }

    static void result(String what, long answer, int[]... rows) {
        fresh();
        draft(rows);
        due(what + ": verify", x.verify(0), OK);
        due(what + ": run", x.run(0), answer);
    }

    /**
     * Registers 6 and 7 get SCALARs of these ends, on one path: DELETE answers 0..1, which is stretched and moved.
     * Behind it registers 1 to 5 are not set.
     */
    static int[][] spans(long lo6, long hi6, long lo7, long hi7) {
        return rows(mov(1, 0), delete(0), movReg(6, 0), imm(MUL, 6, (int) (hi6 - lo6)), imm(ADD, 6, (int) lo6),
            movReg(7, 0), imm(MUL, 7, (int) (hi7 - lo7)), imm(ADD, 7, (int) lo7));
    }

    static int[][] span(long lo6, long hi6) {
        return spans(lo6, hi6, 0, 0);
    }

    /** Register 0 becomes VALUE 0, registers 6 PACKET 0..0 and 7 END; where key 5 is not there, it ends with 0. */
    static int[][] valuePointer() {
        return rows(movReg(6, 1), movReg(7, 2), mov(1, 5), lookup(0), jump(JNE, 0, 0, 1), exit());
    }

    /** In which registers allKinds puts what; KEY_IN gets VALUE 0 or MAYBE. */
    static final int KEY_IN = 0, SCALAR_IN = 3, FRAME_IN = 5, PACKET_IN = 6, END_IN = 7;
    static final int[] KINDS = {KEY_IN, SCALAR_IN, FRAME_IN, PACKET_IN, END_IN};

    static int[][] allKinds(boolean value, int scalar) {
        int[][] start = value ? valuePointer() : rows(movReg(6, 1), movReg(7, 2), mov(1, 5), lookup(0));
        return join(start, movReg(FRAME_IN, FRAME), mov(SCALAR_IN, scalar));
    }
}
