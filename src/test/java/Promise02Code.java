import java.util.Set;

public final class Promise02Code extends Checks {
    private static final Set<Integer> NAMED = Set.of(0, 1, 2, 3, 4, 5, 6, 10, 11, 12, 13, 14, 15, 16,
        20, 21, 22, 23, 24, 31, 32, 33, 34, 40, 41, 42, 50, 51, 52, 60);

    public static void main(String[] args) {
        ops();
        fresh();
        registers();
        fresh();
        shifts();
        fortyInstructions();
        freeFields();
        finish();
    }

    private static void ops() {
        int[] far = {Integer.MIN_VALUE, -20, -10, -1, 100, 120, 1000, 65536, Integer.MAX_VALUE};
        for (int op : far) {
            due("op " + op, x.code(op, 0, 0, 0, 0), false);
        }
        due("no op was taken", x.wipe(), 0);
        for (int op = -70; op < 130; op++) {
            due("op " + op, x.code(op, 0, 0, 0, 0), NAMED.contains(op));
            due("wipe after op " + op, x.wipe(), NAMED.contains(op) ? 1 : 0);
        }
    }

    private static void registers() {
        for (int op : NAMED) {
            due("d 7", x.code(op, 7, 8, 0, 0), true);
            due("d 8, op " + op, x.code(op, 8, 0, 0, 0), false);
            due("d -1, op " + op, x.code(op, -1, 0, 0, 0), false);
            due("s 9, op " + op, x.code(op, 0, 9, 0, 0), false);
            due("s -1, op " + op, x.code(op, 0, -1, 0, 0), false);
            due("d least, op " + op, x.code(op, Integer.MIN_VALUE, 0, 0, 0), false);
            due("s most, op " + op, x.code(op, 0, Integer.MAX_VALUE, 0, 0), false);
            due("wipe", x.wipe(), 1);
        }
    }

    private static void shifts() {
        due("SHR by 0", x.code(6, 0, 0, 0, 0), true);
        due("SHR by 31", x.code(6, 0, 0, 0, 31), true);
        due("SHR by 32", x.code(6, 0, 0, 0, 32), false);
        due("SHR by -1", x.code(6, 0, 0, 0, -1), false);
        due("SHR by a register ignores imm", x.code(16, 0, 0, 0, 32), true);
        due("SHR by a register ignores imm", x.code(16, 0, 0, 0, -1), true);
        due("wipe", x.wipe(), 4);
    }

    private static void fortyInstructions() {
        for (int n = 0; n < 40; n++) {
            due("instruction " + n, x.code(0, 0, 0, 0, n), true);
        }
        due("instruction 40", x.code(60, 0, 0, 0, 0), false);
        due("verify finds only moves", x.verify(0), OUT);
        due("place", x.place(), 40);
        due("wipe", x.wipe(), 40);
        due("room again", x.code(60, 0, 0, 0, 0), true);
        due("wipe", x.wipe(), 1);
        int[][] full = new int[40][];
        for (int n = 0; n < 39; n++) {
            full[n] = imm(ADD, 0, 1);
        }
        full[0] = mov(0, 5);
        full[39] = exit();
        answers("forty instructions", 43, 43, 43, full);
        due("a refused one changes nothing", x.code(0, 0, 0, 0, 9), false);
        due("verify(1)", x.verify(1), OK);
        due("run(1)", x.run(1), 43);
        due("steps", x.steps(), 40);
        x.wipe();
    }

    private static void freeFields() {
        int[] odd = {Integer.MIN_VALUE, -101, -1, 2, 101, Integer.MAX_VALUE};
        for (int v : odd) {
            due("off " + v, x.code(21, 0, 0, v, 0), true);
            due("imm " + v, x.code(50, 0, 0, 0, v), true);
        }
        due("wipe", x.wipe(), 12);
    }
}
