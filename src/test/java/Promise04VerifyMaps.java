/** LOOKUP, UPDATE, DELETE: what they need and what is known behind them. */
public final class Promise04VerifyMaps extends Checks {
    private static final int LOOKUP = 50, UPDATE = 51, DELETE = 52;

    public static void main(String[] args) {
        for (int op = LOOKUP; op <= DELETE; op++) {
            needs(op);
            behind(op);
            fresh();
        }
        answers();
        finish();
    }

    private static int[] call(int op) {
        return new int[] {op, ANY, ANY, -5, 1};
    }

    private static int[][] ready(int[]... rows) {
        return join(rows, mov(1, 5), mov(2, 6), mov(3, 7));
    }

    private static void needs(int op) {
        boolean all = op == UPDATE;
        refused("register 1 is PACKET", all ? UNSET : KIND, 0, call(op), exit());
        refused("register 1 is PACKET, the rest is set", KIND, 2, mov(2, 0), mov(3, 0), call(op), exit());
        refused("register 1 is nothing", UNSET, 4, join(ready(), delete(0), call(op), exit()));
        refused("register 1 alone is nothing", UNSET, 6, join(ready(), delete(0), mov(2, 6), mov(3, 7), call(op), exit()));
        int fault = all ? KIND : OK;
        int[][] exit = rows(mov(0, 0), exit());
        verdict("register 2 is END", fault, 2, join(join(rows(mov(1, 5), mov(3, 7)), call(op)), exit));
        verdict("register 3 is FRAME", fault, 3, join(join(rows(mov(1, 5), mov(2, 7), movReg(3, FRAME)), call(op)), exit));
        verdict("register 3 is nothing", all ? UNSET : OK, 2, join(join(rows(mov(1, 5), mov(2, 7)), call(op)), exit));
        verdict("register 2 is nothing", all ? UNSET : OK, 6,
            join(join(ready(), delete(0), mov(1, 5), mov(3, 7), call(op)), exit));
        verdict("UNSET of 3 is before KIND of 1", all ? UNSET : KIND, 1, join(join(rows(mov(2, 5)), call(op)), exit));
    }

    private static void verdict(String what, int fault, int place, int[]... rows) {
        draft(rows);
        due(what + ": verify", x.verify(0), fault);
        due(what + ": place", x.place(), fault == OK ? -1 : place);
    }

    private static void behind(int op) {
        int[][] set = ready(mov(4, 1), mov(5, 2), mov(6, 3), mov(7, 4), movReg(0, FRAME), store(0, 6, 4));
        for (int r = 1; r <= 5; r++) {
            refused("register " + r, UNSET, 10, join(set, call(op), movReg(0, r), exit()));
        }
        passes("register 6", 3, 3, join(set, call(op), movReg(0, 6), exit()));
        passes("register 7", 4, 4, join(set, call(op), movReg(0, 7), exit()));
        passes("a cell", 3, 3, join(set, call(op), load(0, FRAME, 4), exit()));
        int[][] maybe = rows(mov(1, 5), lookup(0), movReg(6, 0), movReg(7, FRAME), store(7, 0, 3));
        int[][] again = rows(mov(1, 5), mov(2, 6), mov(3, 7), call(op));
        refused("MAYBE in a register", UNSET, 9, join(join(maybe, again), jump(JEQ, 6, 0, 0), exit()));
        refused("MAYBE in a cell", UNSET, 9, join(join(maybe, again), load(0, FRAME, 3), exit()));
        int[][] value = join(maybe, jump(JNE, 0, 0, 1), exit());
        refused("VALUE in a register", UNSET, 11, join(join(value, again), load(0, 6, 0), exit()));
        refused("VALUE in a cell", UNSET, 11, join(join(value, again), load(0, FRAME, 3), exit()));
        passes("FRAME stays", 0, TOP, join(join(value, again), store(7, 7, 3), mov(0, -1), exit()));
        int[][] zero = join(maybe, jump(JEQ, 0, 0, 1), ja(0));
        refused("0 stays on its way alone", UNSET, 11, join(join(zero, again), movReg(0, 6), exit()));
        passes("PACKET and END stay", 0, 255,
            join(ready(movReg(6, 1), movReg(7, 2)), call(op), mov(0, 3), jumpReg(JGE, 6, 7, 1), loadByte(0, 6, 0), exit()));
        passes("SAFE stays", 0, 255, join(join(rows(movReg(6, 1), jumpReg(JLT, 1, 2, 2), mov(0, 0), exit()), ready()),
            call(op), loadByte(0, 6, 0), exit()));
    }

    private static void answers() {
        passes("UPDATE: 0..1", 0, 1, join(ready(), update(0), exit()));
        passes("DELETE: 0..1", 0, 1, mov(1, 5), delete(1), exit());
        refused("LOOKUP: MAYBE", KIND, 2, mov(1, 5), lookup(1), exit());
        passes("an interval as key", 0, 1, mov(1, 5), delete(1), movReg(1, 0), delete(0), exit());
        passes("each LOOKUP has its own MAYBE", 0, TOP, mov(1, 5), lookup(0), jump(JNE, 0, 0, 1), exit(),
            mov(1, 6), lookup(1), jump(JNE, 0, 0, 1), exit(), load(0, 0, 0), exit());
    }
}
