/** What the verifier asks of LOOKUP, UPDATE, DELETE and EXIT, and what it knows behind them. */
public final class SentencesOfMapCalls extends Sentences {
    private static final int LOOKUP = 50, UPDATE = 51, DELETE = 52;

    public static void main(String[] args) {
        needed();
        goneRegisters();
        stale();
        kept();
        answered();
        exitKinds();
        pathEnds();
        finish();
    }

    private static int[] call(int op) {
        return new int[] {op, ANY, ANY, -5, 1};
    }

    private static int[][] ready(int op, int[]... before) {
        return join(before, mov(1, 5), mov(2, 6), mov(3, 7), call(op));
    }

    private static void needed() {
        sentence("LOOKUP, UPDATE, DELETE: register 1 (UPDATE: 2 and 3, too) must be SCALAR, else KIND");
        for (boolean value : new boolean[] {false, true}) {
            for (int op = LOOKUP; op <= DELETE; op++) {
                for (int r = 1; r <= 3; r++) {
                    for (int kind : new int[] {KEY_IN, FRAME_IN, PACKET_IN, END_IN, FRAME}) {
                        int[][] all = join(allKinds(value, 1), mov(1, 5), mov(2, 6), mov(3, 7), movReg(r, kind), call(op),
                            mov(0, 0), exit());
                        String what = op + " with register " + kind + " in " + r;
                        if (r == 1 || op == UPDATE) {
                            bad(what, KIND, all.length - 3, all);
                        } else {
                            good(what, 0, 0, all);
                        }
                    }
                }
            }
        }
        for (int op = LOOKUP; op <= DELETE; op++) {
            good("spans, " + op, 0, 0, join(span(0, TOP), movReg(1, 6), movReg(2, 6), movReg(3, 6), call(op), mov(0, 0), exit()));
        }
        bad("PACKET of the beginning", KIND, 0, lookup(0), exit());
        bad("END of the beginning", KIND, 2, mov(1, 1), mov(3, 1), update(0), exit());
    }

    private static void goneRegisters() {
        sentence("behind them NOTHING is known of registers 1 to 5");
        for (int op = LOOKUP; op <= DELETE; op++) {
            for (int r = 1; r <= 7; r++) {
                int[][] all = join(ready(op, mov(4, 8), mov(5, 9), mov(6, 10), mov(7, 11)), movReg(0, r), exit());
                if (r <= 5) {
                    bad("register " + r + " behind " + op, UNSET, 8, all);
                } else {
                    good("register " + r + " behind " + op, r + 4, r + 4, all);
                }
            }
        }
    }

    private static void stale() {
        sentence("and of all registers and cells that are VALUE or MAYBE");
        int[][] maybe = rows(mov(1, 5), lookup(0), movReg(6, 0), movReg(7, 0), movReg(5, FRAME),
            store(5, 0, 0), store(5, 0, 1), store(5, 0, 2), store(5, 0, 3), store(5, 0, 4), store(5, 0, 5));
        int[][] value = join(maybe, jump(JNE, 0, 0, 1), exit());
        int[][] moved = join(value, imm(ADD, 6, 1), imm(ADD, 7, 1));
        for (int op = LOOKUP; op <= DELETE; op++) {
            for (int[][] start : new int[][][] {maybe, value, moved}) {
                int[][] all = ready(op, start);
                for (int r = 6; r <= 7; r++) {
                    bad("register " + r + " behind " + op, UNSET, all.length, join(all, movReg(0, r), exit()));
                }
                for (int cell = 0; cell < 6; cell++) {
                    bad("cell " + cell + " behind " + op, UNSET, all.length, join(all, load(0, FRAME, cell), exit()));
                }
            }
        }
        good("what was found to be 0 stays", 0, 0, join(ready(DELETE, join(maybe, jump(JEQ, 0, 0, 2), mov(0, 0), exit())),
            load(0, FRAME, 5), reg(ADD, 0, 6), exit()));
        good("a new LOOKUP's own MAYBE counts", 0, TOP, join(ready(LOOKUP, maybe), jump(JNE, 0, 0, 1), exit(), load(0, 0, 0), exit()));
    }

    private static void kept() {
        sentence("NOTHING is known of registers 1 to 5 and of all that are VALUE or MAYBE: all else stays known");
        for (int op = LOOKUP; op <= DELETE; op++) {
            for (int cell = 0; cell < 6; cell++) {
                good("a SCALAR in cell " + cell, 9, 9,
                    join(ready(op, movReg(5, FRAME), mov(4, 9), store(5, 4, cell)), load(0, FRAME, cell), exit()));
            }
            good("PACKET and END in registers, SAFE", 0, 255, join(ready(op, movReg(6, 1), movReg(7, 2), mov(0, 0),
                jumpReg(JLT, 1, 2, 1), exit()), loadByte(0, 6, 0), exit()));
            good("PACKET and END in cells", 0, 255, join(ready(op, movReg(5, FRAME), store(5, 1, 0), store(5, 2, 1)), mov(0, 0),
                load(3, FRAME, 0), load(4, FRAME, 1), jumpReg(JGE, 3, 4, 1), loadByte(0, 3, 0), exit()));
            good("FRAME in a register", 3, 3, join(ready(op, movReg(6, FRAME)), mov(0, 3), store(6, 0, 0), load(0, 6, 0), exit()));
            good("FRAME in a cell", 3, 3, join(ready(op, movReg(6, FRAME), store(6, 6, 4)), mov(0, 3), load(3, FRAME, 4),
                store(3, 0, 0), load(0, FRAME, 0), exit()));
        }
    }

    private static void answered() {
        sentence("register 0 is MAYBE n (LOOKUP), else SCALAR 0..1.");
        good("UPDATE", 0, 1, join(ready(UPDATE), exit()));
        good("DELETE", 0, 1, join(ready(DELETE), exit()));
        good("UPDATE over a VALUE", 0, 1, join(ready(UPDATE, valuePointer()), exit()));
        bad("LOOKUP is no SCALAR", KIND, 4, join(ready(LOOKUP), exit()));
        bad("LOOKUP is no VALUE", KIND, 4, join(ready(LOOKUP), load(0, 0, 0), exit()));
        good("LOOKUP can be asked", 0, TOP, join(ready(LOOKUP), jump(JEQ, 0, 0, 1), load(0, 0, 0), exit()));
        bad("a LOOKUP behind a VALUE is MAYBE again", KIND, 10, join(ready(LOOKUP, valuePointer()), load(0, 0, 0), exit()));
    }

    private static void exitKinds() {
        sentence("EXIT: register 0 must be SCALAR, else KIND");
        for (boolean value : new boolean[] {false, true}) {
            int[][] start = allKinds(value, 0);
            for (int kind : new int[] {KEY_IN, FRAME_IN, PACKET_IN, END_IN, FRAME}) {
                bad("register " + kind, KIND, start.length + 1, join(start, movReg(0, kind), exit()));
            }
            good("SCALAR", 0, 0, join(start, movReg(0, SCALAR_IN), exit()));
        }
        good("all words", 0, TOP, join(span(0, TOP), movReg(0, 6), exit()));
        bad("NOTHING", UNSET, 0, exit());
    }

    private static void pathEnds() {
        sentence("EXIT: the path ends.");
        good("as the last instruction", 1, 1, mov(0, 1), exit());
        bad("nothing behind it is on the path", DEAD, 2, mov(0, 1), exit(), ja(-1));
        good("the other path goes on", 0, 1, mov(1, 0), delete(0), jump(JEQ, 0, 0, 1), exit(), mov(0, 2), imm(MUL, 0, 0), exit());
        fresh();
        answers("nor in the run", 1, 2, 2, mov(1, 0), delete(0), jump(JEQ, 0, 0, 1), exit(), mov(0, 2), exit());
        due("steps", x.steps(), 5);
    }
}
