/** Which paths are followed, in which order, and the faults that belong to no value: OUT, COMPLEX, DEAD, BAD. */
public final class Promise04VerifyPaths extends Checks {
    public static void main(String[] args) {
        programs();
        fresh();
        out();
        order();
        fresh();
        complex();
        fresh();
        dead();
        fresh();
        manyPaths();
        finish();
    }

    private static void programs() {
        due("p 2", x.verify(2), BAD);
        due("p -1", x.verify(-1), BAD);
        due("p most", x.verify(Integer.MAX_VALUE), BAD);
        draft(mov(0, 1), exit());
        due("BAD with a good draft", x.verify(2), BAD);
        due("no program by BAD", x.run(0), NONE);
        due("verify(1)", x.verify(1), OK);
        due("only program 1", x.run(0), NONE);
        due("run(1)", x.run(1), 1);
        draft(mov(0, 2), exit());
        due("a draft that isn't verified is no program", x.run(1), 1);
        due("verify(0)", x.verify(0), OK);
        due("run(0)", x.run(0), 2);
        due("run(1)", x.run(1), 1);
        refused("a fault", OUT, 1, mov(0, 3));
        due("program 0 is as before", x.run(0), 2);
        draft(mov(0, 4), exit());
        due("verify(1)", x.verify(1), OK);
        due("it takes the place of the old one", x.run(1), 4);
        due("the draft stays", x.verify(0), OK);
        due("run(0)", x.run(0), 4);
        x.code(60, 0, 0, 0, 0);
        due("the draft goes on", x.verify(0), DEAD);
        due("run(0)", x.run(0), 4);
    }

    private static void out() {
        refused("no instruction", OUT, 0);
        refused("no EXIT", OUT, 1, mov(0, 1));
        refused("JA just behind the last", OUT, 3, mov(0, 1), ja(1), exit());
        refused("JA far behind the last", OUT, 3, mov(0, 1), ja(Integer.MAX_VALUE), exit());
        refused("JA backward", OUT, 1, mov(0, 1), ja(-1), exit());
        refused("JA far backward", OUT, 1, mov(0, 1), ja(Integer.MIN_VALUE), exit());
        passes("JA to the next", 1, 1, mov(0, 1), ja(0), exit());
        refused("a conditional jump behind the last", OUT, 5,
            mov(1, 0), delete(0), jump(JEQ, 0, 0, 2), mov(0, 1), exit());
        refused("far behind the last", OUT, 5,
            mov(1, 0), delete(0), jump(JEQ, 0, 0, Integer.MAX_VALUE), mov(0, 1), exit());
        passes("a way behind the last that is not followed", 1, 1, mov(0, 1), jump(JEQ, 0, 0, 40), exit());
        refused("backward on a way that is not followed", OUT, 1, mov(0, 1), jump(JEQ, 0, 0, -1), exit());
        refused("backward before UNSET", OUT, 0, jump(JEQ, 5, 0, -1), exit());
        refused("backward before KIND", OUT, 0, jumpReg(JEQ, 1, 2, -1), exit());
        refused("not backward: UNSET", UNSET, 0, jump(JEQ, 5, 0, 0), exit());
        refused("off of no jump", UNSET, 1, mov(3, 0), exit());
        for (int map : new int[] {-1, 2, Integer.MAX_VALUE, Integer.MIN_VALUE}) {
            refused("LOOKUP in map " + map, OUT, 1, mov(1, 0), lookup(map), exit());
            refused("UPDATE in map " + map, OUT, 0, update(map), exit());
            refused("DELETE in map " + map, OUT, 0, delete(map), exit());
        }
    }

    private static void order() {
        refused("the next instruction comes first", UNSET, 3,
            mov(1, 0), delete(0), jump(JEQ, 0, 0, 1), movReg(0, 5), store(0, 0, 0), exit());
        refused("then the jump's goal", KIND, 5,
            mov(1, 0), delete(0), jump(JEQ, 0, 0, 2), mov(0, 0), exit(), store(0, 0, 0), exit());
        refused("the later branch comes first", KIND, 7,
            mov(1, 0), delete(0), jump(JEQ, 0, 0, 5), jump(JEQ, 0, 1, 3), mov(0, 1), exit(), exit(),
            store(0, 0, 0), movReg(0, 5), exit());
        refused("a fault is before DEAD", UNSET, 3, mov(0, 1), ja(1), exit(), movReg(0, 5), exit());
    }

    private static void complex() {
        int[][] ten = rows(mov(0, 0));
        for (int n = 0; n < 10; n++) {
            ten = join(ten, n % 2 == 0 ? jump(JEQ + n % 4, 0, 5, 0) : jumpReg(JEQ + n % 4, 0, 0, 0));
        }
        passes("ten conditional jumps", 0, 0, join(ten, ja(0), ja(0), exit()));
        refused("eleven", COMPLEX, 13, join(ten, ja(0), mov(3, 1), jump(JNE, 0, 1, 0), exit()));
        refused("twelve", COMPLEX, 11, join(ten, jumpReg(JLT, 0, 0, 0), jump(JGE, 0, 0, 0), exit()));
        int[][] faulty = rows();
        for (int n = 0; n < 11; n++) {
            faulty = join(faulty, jump(JEQ, 6, 0, -1));
        }
        refused("before all else", COMPLEX, 10, faulty);
        refused("behind an EXIT, too", COMPLEX, 12, join(rows(mov(0, 1), exit()), faulty));
        due("BAD is before it", x.verify(2), BAD);
        refused("ten of them are looked at one by one", OUT, 0, java.util.Arrays.copyOf(faulty, 10));
    }

    private static void dead() {
        refused("behind EXIT", DEAD, 2, mov(0, 1), exit(), exit());
        refused("the first one", DEAD, 2, mov(0, 1), ja(1), mov(0, 2), ja(1), mov(0, 3), exit());
        refused("a way that no pair takes", DEAD, 2, mov(0, 1), jump(JEQ, 0, 1, 1), mov(0, 2), exit());
        refused("wrong instructions on no path", DEAD, 2, mov(0, 1), exit(), lookup(9), ja(-1), movReg(0, 5));
        passes("all on one path or another", 1, 2,
            mov(1, 0), delete(0), jump(JEQ, 0, 0, 2), mov(0, 1), exit(), mov(0, 2), exit());
    }

    private static void manyPaths() {
        // Ten jumps with both ways each: 1024 paths; register 7 counts how often the next instruction's way was gone.
        int[][] both = rows(mov(1, 0), delete(0), mov(7, 0), movReg(6, 0));
        for (int n = 0; n < 10; n++) {
            both = join(both, jumpReg(JNE, 6, 0, 1), imm(ADD, 7, 1));
        }
        passes("1024 paths", 0, 10, join(both, movReg(0, 7), exit()));
        // 1 >> register 7 is 1 only where every jump was taken.
        refused("a fault on the last path alone", BOUNDS, 29, join(both,
            movReg(3, FRAME), imm(ADD, 3, 5), mov(4, 1), reg(SHR, 4, 7), reg(ADD, 3, 4), store(3, 4, 0), exit()));
        passes("no fault on any", 0, 0, join(both,
            movReg(3, FRAME), imm(ADD, 3, 4), mov(4, 1), reg(SHR, 4, 7), reg(ADD, 3, 4), store(3, 4, 0), mov(0, 0), exit()));
    }
}
