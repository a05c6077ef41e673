/** The order of the paths, and the faults OUT, UNSET, COMPLEX and DEAD. */
public final class SentencesOfFaults extends Sentences {
    private static final int[] UNSET_AT_FIRST = {0, 3, 4, 5, 6, 7};
    private static final int[] CONDITIONAL = {21, 22, 23, 24, 31, 32, 33, 34};

    public static void main(String[] args) {
        order();
        behindTheLast();
        backward();
        noSuchMap();
        unsetArithmetic();
        unsetOthers();
        onlyGets();
        complex();
        complexBeforeAll();
        dead();
        finish();
    }

    private static void order() {
        sentence("The verifier follows all paths from instruction 0, the next instruction before the jump's goal, and stops at the first FAULT");
        int[][] start = rows(mov(1, 0), delete(0), movReg(6, 0));
        for (int op : new int[] {JEQ, JNE, JGE, JLT}) {
            int n = op == JGE || op == JLT ? 1 : 0;
            bad("next first, " + op, UNSET, 4, join(start, jump(op, 6, n, 1), movReg(0, 5), load(0, 0, 0), exit()));
            bad("then the goal, " + op, KIND, 5, join(start, jump(op, 6, n, 1), exit(), load(0, 0, 0), exit()));
        }
        bad("the fault on the way of the inner jump's goal before the outer one's", KIND, 6, join(start,
            jump(JEQ, 6, 0, 3), jump(JEQ, 0, 1, 1), exit(), load(0, 0, 0), movReg(0, 5), exit()));
        bad("the outer one's goal is followed, too", UNSET, 7, join(start,
            jump(JEQ, 6, 0, 3), jump(JEQ, 0, 1, 1), exit(), exit(), movReg(0, 5), exit()));
        bad("the same instruction is right on the first path and wrong on the second", KIND, 5,
            mov(1, 0), delete(0), movReg(3, FRAME), jump(JEQ, 0, 0, 1), mov(3, 1), imm(MUL, 3, 1), mov(0, 0), exit());
        int[][] ten = rows(mov(1, 0), delete(0), mov(7, 0), movReg(6, 0));
        for (int n = 0; n < 10; n++) {
            ten = join(ten, jumpReg(JNE, 6, 0, 1), imm(ADD, 7, 1));
        }
        good("all 1024 paths of ten jumps", 0, 10, join(ten, movReg(0, 7), exit()));
        fresh();
        refused("a fault while a way is still open", UNSET, 4, join(start, jump(JEQ, 6, 0, 1), movReg(0, 5), exit()));
        passes("the next draft has no such way", 7, 7, mov(0, 7), exit());
        bad("of two faults on a path the first", UNSET, 1, mov(0, 1), movReg(0, 5), load(0, 1, 0), exit());
    }

    private static void behindTheLast() {
        sentence("OUT: an instruction behind the last one (place: the number of instructions)");
        bad("none at all", OUT, 0);
        int[][] moves = rows();
        for (int n = 1; n <= 40; n++) {
            moves = join(moves, mov(0, n));
            bad(n + " without EXIT", OUT, n, moves);
        }
        for (int off : new int[] {1, 2, 3, 38, 39, 40, 1000, MOST_INT - 1, MOST_INT}) {
            bad("JA " + off, OUT, 3, mov(0, 1), ja(off), exit());
            bad("a way that may be taken, " + off, OUT, 4, mov(1, 0), delete(0), jump(JEQ, 0, 0, off), exit());
            good("a way that can't be taken, " + off, 1, 1, mov(0, 1), jump(JEQ, 0, 0, off), exit());
        }
        good("just the last one", 1, 1, mov(1, 0), delete(0), jump(JEQ, 0, 0, 1), exit(), mov(0, 1), exit());
        bad("the last one goes on", OUT, 2, mov(0, 1), ja(0));
        bad("before DEAD", OUT, 3, ja(1), exit(), mov(0, 1));
    }

    private static void backward() {
        sentence("or a jump with off below 0 (at the jump, before what else it does)");
        for (int off : new int[] {-1, -2, -3, -40, -101, LEAST_INT + 1, LEAST_INT}) {
            bad("JA " + off, OUT, 2, mov(0, 1), mov(0, 2), ja(off), exit());
            for (int op : CONDITIONAL) {
                int[] jump = {op, 3, 4, off, 5};
                bad(op + " before UNSET", OUT, 1, mov(0, 1), jump, exit());
                bad(op + " before KIND", OUT, 2, movReg(3, 1), movReg(4, 1), jump, exit());
                bad(op + " where it is taken or not", OUT, 2, mov(3, 5), mov(4, 5), jump, exit());
                bad(op + " where it is taken or not", OUT, 2, mov(3, 6), mov(4, 5), jump, exit());
            }
        }
        good("off 0", 1, 1, mov(0, 1), ja(0), jump(JEQ, 0, 1, 0), exit());
        bad("on no path it is DEAD", DEAD, 2, mov(0, 1), ja(1), ja(-1), exit());
    }

    private static void noSuchMap() {
        sentence("LOOKUP, UPDATE, DELETE with imm not 0 or 1.");
        int[][] ready = rows(mov(1, 1), mov(2, 1), mov(3, 1));
        for (int op = 50; op <= 52; op++) {
            for (int map : new int[] {LEAST_INT, -2, -1, 2, 3, 256, MOST_INT}) {
                int[] call = {op, 0, 0, 0, map};
                bad(op + " " + map, OUT, 3, join(ready, call, exit()));
                bad(op + " before UNSET " + map, OUT, 3, mov(1, 1), delete(0), mov(2, 1), call, exit());
                bad(op + " before KIND " + map, OUT, 0, call, exit());
            }
            for (int map = 0; map <= 1; map++) {
                good(op + " " + map, 4, 4, join(ready, new int[] {op, 0, 0, 0, map}, mov(0, 4), exit()));
            }
        }
    }

    private static void unsetArithmetic() {
        sentence("UNSET: a register that is used (not the one that only gets something) of which NOTHING is known: arithmetic and jumps");
        for (int r : UNSET_AT_FIRST) {
            int set = r == 3 ? 4 : 3;
            bad("MOV s", UNSET, 0, movReg(set, r), exit());
            for (int operation = ADD; operation <= SHR; operation++) {
                bad("d with imm", UNSET, 0, imm(operation, r, 1), exit());
                bad("d with s", UNSET, 1, mov(set, 1), reg(operation, r, set), exit());
                bad("s with d", UNSET, 1, mov(set, 1), reg(operation, set, r), exit());
                bad("d before KIND of s", UNSET, 0, reg(operation, r, 2), exit());
                bad("s before KIND of d", UNSET, 0, reg(operation, 2, r), exit());
            }
            for (int op = JEQ; op <= JGE; op++) {
                bad("jump's d with imm", UNSET, 0, jump(op, r, 1, 0), exit());
                bad("jump's d", UNSET, 1, mov(set, 1), jumpReg(op, r, set, 0), exit());
                bad("jump's s", UNSET, 1, mov(set, 1), jumpReg(op, set, r, 0), exit());
                bad("jump's d before KIND", UNSET, 0, jumpReg(op, r, 1, 0), exit());
                bad("jump's s before KIND", UNSET, 0, jumpReg(op, 1, r, 0), exit());
            }
        }
    }

    private static void unsetOthers() {
        sentence("UNSET: a register that is used (not the one that only gets something) of which NOTHING is known: memory, maps, EXIT");
        for (int r : UNSET_AT_FIRST) {
            bad("LOAD's s", UNSET, 0, load(1, r, 0), exit());
            bad("LOAD's s before BOUNDS", UNSET, 0, load(1, r, 101), exit());
            bad("LOADB's s", UNSET, 0, loadByte(1, r, 0), exit());
            bad("STORE's d", UNSET, 0, store(r, 1, 0), exit());
            bad("STORE's s before KIND of d", UNSET, 0, store(1, r, 0), exit());
            int pointer = r == 7 ? 6 : 7;
            bad("STORE's s", UNSET, 1, movReg(pointer, FRAME), store(pointer, r, 0), exit());
            bad("STORE's s before BOUNDS", UNSET, 1, movReg(pointer, FRAME), store(pointer, r, 6), exit());
        }
        int[][] gone = rows(mov(1, 1), delete(0));
        for (int op = 50; op <= 52; op++) {
            int[] call = {op, 0, 0, 0, 0};
            bad(op + " without register 1", UNSET, 4, join(gone, mov(2, 1), mov(3, 1), call, exit()));
        }
        bad("UPDATE without register 2", UNSET, 4, join(gone, mov(1, 1), mov(3, 1), update(0), exit()));
        bad("UPDATE without register 3", UNSET, 4, join(gone, mov(1, 1), mov(2, 1), update(0), exit()));
        bad("UPDATE without register 3, before KIND of 1", UNSET, 0, update(0), exit());
        bad("EXIT without register 0", UNSET, 1, mov(1, 5), exit());
    }

    private static void onlyGets() {
        sentence("(not the one that only gets something)");
        for (int r : UNSET_AT_FIRST) {
            good("MOV imm", 3, 3, mov(r, 3), movReg(0, r), exit());
            int other = r == 3 ? 4 : 3;
            good("MOV s", 3, 3, mov(other, 3), movReg(r, other), movReg(0, r), exit());
            good("LOAD", 3, 3, mov(other, 3), movReg(1, FRAME), store(1, other, 0), load(r, FRAME, 0), movReg(0, r), exit());
            good("LOADB", 0, 255, mov(other, 3), jumpReg(JLT, 1, 2, 2), mov(0, 3), exit(), loadByte(r, 1, 0), movReg(0, r), exit());
        }
        good("register 0 of DELETE", 0, 1, mov(1, 1), delete(0), exit());
        good("register 0 of UPDATE", 0, 1, mov(1, 1), mov(2, 1), mov(3, 1), update(0), exit());
        good("register 0 of LOOKUP", 0, 0, mov(1, 1), lookup(0), jump(JEQ, 0, 0, 1), mov(0, 0), exit());
        good("LOOKUP needs no 2 and 3", 4, 4, mov(1, 1), delete(0), mov(1, 1), lookup(0), mov(0, 4), exit());
        good("DELETE needs no 2 and 3", 0, 1, mov(1, 1), delete(0), mov(1, 1), delete(1), exit());
        good("JA needs none", 1, 1, ja(0), mov(0, 1), exit());
    }

    private static void complex() {
        sentence("A program with more than 10 conditional jumps (21..24, 31..34) is COMPLEX (place: the eleventh one)");
        for (int op : CONDITIONAL) {
            int[][] ten = rows(mov(0, 0), mov(3, 0));
            for (int n = 0; n < 10; n++) {
                ten = join(ten, new int[] {op, 0, 3, 0, 0});
            }
            good("ten of " + op, 0, 0, join(ten, ja(0), ja(0), exit()));
            bad("eleven of " + op, COMPLEX, 12, join(ten, new int[] {op, 0, 3, 0, 0}, exit()));
            for (int last : CONDITIONAL) {
                bad("the eleventh is " + last, COMPLEX, 13, join(ten, ja(0), new int[] {last, 0, 3, 0, 0}, exit()));
            }
            bad("twelve, the eleventh's place", COMPLEX, 14, join(ten, mov(4, 1), ja(0), new int[] {op, 0, 3, 0, 0}, ja(0),
                new int[] {op, 0, 3, 0, 0}, exit()));
        }
        int[][] plain = rows(mov(0, 1));
        for (int n = 0; n < 38; n++) {
            plain = join(plain, ja(0));
        }
        good("JA is none of them", 1, 1, join(plain, exit()));
        int[][] forty = rows();
        for (int n = 0; n < 40; n++) {
            forty = join(forty, jump(JEQ, 0, 0, 0));
        }
        bad("forty", COMPLEX, 10, forty);
    }

    private static void complexBeforeAll() {
        sentence("is COMPLEX (place: the eleventh one), before all else");
        int[][] eleven = rows();
        for (int n = 0; n < 11; n++) {
            eleven = join(eleven, jump(JEQ, 0, 0, 0));
        }
        bad("before OUT", COMPLEX, 11, join(join(rows(ja(-1)), eleven), exit()));
        bad("before OUT at the end", COMPLEX, 11, join(rows(mov(0, 0)), eleven));
        bad("before UNSET", COMPLEX, 11, join(join(rows(movReg(0, 5)), eleven), exit()));
        bad("before KIND", COMPLEX, 11, join(join(rows(imm(ADD, 2, 1)), eleven), exit()));
        bad("before BOUNDS", COMPLEX, 11, join(join(rows(loadByte(0, 1, 0)), eleven), exit()));
        bad("before DEAD", COMPLEX, 12, join(rows(mov(0, 0), exit()), eleven));
    }

    private static void dead() {
        sentence("If no path has a fault but some instruction is on none: DEAD (place: the first such).");
        bad("behind EXIT", DEAD, 2, mov(0, 1), exit(), mov(0, 1));
        bad("two EXITs", DEAD, 2, mov(0, 1), exit(), exit());
        bad("leapt over", DEAD, 2, mov(0, 1), ja(1), mov(0, 1), exit());
        bad("the first of two", DEAD, 2, mov(0, 1), ja(1), mov(0, 1), ja(1), mov(0, 1), exit());
        bad("the last of forty", DEAD, 39, join(ones(38), exit(), exit()));
        good("none of forty", 38, 38, join(ones(38), ja(0), exit()));
        bad("a jump that is never taken", DEAD, 3, mov(0, 1), jump(JEQ, 0, 2, 1), exit(), exit());
        bad("a jump that is always taken", DEAD, 2, mov(0, 1), jump(JEQ, 0, 1, 1), exit(), exit());
        bad("whatever stands there", DEAD, 2, mov(0, 1), exit(), movReg(0, 5), ja(-1), lookup(7), loadByte(0, 1, 101));
        bad("a fault on a later path is before it", UNSET, 5,
            mov(1, 0), delete(0), jump(JEQ, 0, 0, 2), exit(), exit(), movReg(0, 5), exit());
        bad("a fault on the only path is before it", UNSET, 2, ja(1), mov(0, 1), exit());
        good("on some path is enough", 0, 3, mov(1, 0), delete(0), jump(JEQ, 0, 0, 2), mov(0, 3), exit(), mov(0, 0), exit());
    }

    private static int[][] ones(int length) {
        int[][] all = rows(mov(0, 1));
        for (int n = 1; n < length; n++) {
            all = join(all, imm(ADD, 0, 1));
        }
        return all;
    }
}
