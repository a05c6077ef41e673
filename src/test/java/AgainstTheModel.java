import java.util.ArrayList;
import java.util.Arrays;
import java.util.List;

/** Many programs, made by a fixed rule: the verdicts and the runs must be those of the model. */
public final class AgainstTheModel extends Checks {
    private static final int PROGRAMS = 8000;
    private static final int[] OPS = {0, 1, 2, 3, 4, 5, 6, 10, 11, 12, 13, 14, 15, 16, 10, 10, 11, 1, 0, 0,
        20, 21, 22, 23, 24, 31, 32, 33, 34, 33, 34, 21, 22, 40, 41, 42, 40, 41, 42, 41, 40, 42, 50, 50, 50, 51, 52, 60};
    private static final int[] WORDS = {0, 0, 0, 1, 1, 2, 3, 5, 7, 31, 32, 99, 100, 101, 255, 256, 65535, 65536,
        Integer.MAX_VALUE, Integer.MIN_VALUE, -2, -1};
    private static final int[] OFFSETS = {0, 0, 0, 1, 1, 2, 3, 4, 5, 6, -1, -2, -99, -100, -101, 99, 100, 101,
        Integer.MAX_VALUE, Integer.MIN_VALUE};
    private static final int[] verdicts = new int[7];

    private static long seed = 20261115;
    private static Model model = new Model();

    public static void main(String[] args) {
        for (int n = 0; n < PROGRAMS; n++) {
            fresh();
            model = new Model();
            for (int stage = 0; stage < 2; stage++) {
                List<int[]> program = pick(3) == 0 ? spoiled(grown()) : grown();
                verifyBoth(program);
                runBoth();
            }
        }
        System.out.println("verdicts OK, OUT, UNSET, KIND, BOUNDS, COMPLEX, DEAD: " + Arrays.toString(verdicts));
        for (int count : verdicts) {
            holds("every verdict is met often", count >= 20);
        }
        finish();
    }

    private static int pick(int bound) {
        seed = seed * 6364136223846793005L + 1442695040888963407L;
        return (int) ((seed >>> 33) % bound);
    }

    private static int pick(int[] from) {
        return from[pick(from.length)];
    }

    private static int[] instruction() {
        int op = pick(OPS);
        boolean jump = op >= 20 && op <= 34;
        int off = jump && pick(40) != 0 ? pick(4) : pick(OFFSETS);
        int imm = pick(4) == 0 ? pick(12) : pick(WORDS);
        if (op == 6) {
            imm &= 31;
        }
        if (op >= 50 && op <= 52 && pick(30) != 0) {
            imm = pick(2);
        }
        int s = pick(4) == 0 ? 8 : pick(8);
        return new int[] {op, pick(8), s, off, imm};
    }

    /** Some instructions that go well together: what single random ones seldom do. */
    private static int[][] chunk() {
        int r = pick(8);
        switch (pick(24)) {
            case 0:
                return rows(jumpReg(JGE, 6, 7, 1), loadByte(r, 6, 0));
            case 1:
                return rows(jumpReg(JLT, 7, 6, 1), loadByte(r, 6, -1));
            case 2:
                return rows(mov(1, pick(6)), lookup(pick(2)), jump(JEQ, 0, 0, 1), load(r, 0, pick(2)));
            case 3:
                return rows(mov(1, pick(6)), lookup(pick(2)), jump(JNE, 0, 0, 1), ja(1), store(0, r, pick(2)));
            case 4:
                return rows(mov(1, pick(6)), mov(2, pick(WORDS)), mov(3, pick(WORDS)), update(pick(2)));
            case 5:
                return rows(movReg(5, FRAME), store(5, r, pick(6)));
            case 6:
                return rows(imm(ADD, 6, pick(4)), reg(ADD, 6, r));
            case 7:
                return rows(mov(1, pick(6)), delete(pick(2)), movReg(r, 0));
            default:
                return rows(instruction());
        }
    }

    /** Adds chunk by chunk, mostly such as leave a program that only wants an end. */
    private static List<int[]> grown() {
        List<int[]> program = new ArrayList<>();
        int want = 3 + pick(28);
        int jumps = pick(40) == 0 ? 6 + pick(6) : 0;
        for (int n = 0; n < jumps; n++) {
            program.add(jumpReg(pick(2) == 0 ? JLT : JGE, 1, 2, 0));
        }
        if (pick(4) != 0) {
            program.add(movReg(6, 1));
            program.add(movReg(7, 2));
        }
        for (int tries = 0; tries < 200 && program.size() < want; tries++) {
            int before = program.size();
            program.addAll(Arrays.asList(chunk()));
            boolean good = new Model().verify(0, ended(program, 4, 9)) == OK;
            if (!good && pick(2000) != 0) {
                program = new ArrayList<>(program.subList(0, before));
            }
        }
        return bestEnd(program);
    }

    /** Looks for an end with which the program passes; a random one if there is none. */
    private static List<int[]> bestEnd(List<int[]> program) {
        if (new Model().verify(0, program) == OK) {
            return program;
        }
        for (int tries = 0; tries < 30; tries++) {
            List<int[]> all = ended(program, tries / 6, tries % 6 == 5 ? 9 : pick(9));
            if (new Model().verify(0, all) == OK) {
                return all;
            }
        }
        return ended(program, pick(5), pick(10));
    }

    /** Behind the program some instructions for its jumps to land on, and an EXIT with a register as the answer (9: with 9). */
    private static List<int[]> ended(List<int[]> program, int landing, int answer) {
        List<int[]> all = new ArrayList<>(program);
        for (int n = 0; n < landing; n++) {
            all.add(mov(5, n));
        }
        all.add(answer == 9 ? mov(0, 9) : movReg(0, answer));
        all.add(exit());
        return all;
    }

    private static List<int[]> spoiled(List<int[]> program) {
        program.set(pick(program.size()), instruction());
        return program;
    }

    private static String show(List<int[]> program) {
        StringBuilder text = new StringBuilder();
        for (int[] row : program) {
            text.append(Arrays.toString(row)).append(' ');
        }
        return text.toString();
    }

    private static void verifyBoth(List<int[]> program) {
        int p = pick(2);
        draft(program.toArray(new int[0][]));
        String text = show(program);
        model.verify(p, program);
        verdicts[model.fault]++;
        due("verify of " + text, x.verify(p), model.fault);
        due("place of " + text, x.place(), model.place);
        due("least of " + text, x.least(), model.least);
        due("most of " + text, x.most(), model.most);
    }

    private static void runBoth() {
        for (int turn = 0; turn < 6; turn++) {
            if (pick(3) == 0) {
                model.packet.clear();
                x.next();
            }
            for (int n = pick(8); n > 0 && model.packet.size() < 24; n--) {
                int b = pick(3) == 0 ? pick(3) : pick(256);
                model.packet.add(b);
                x.feed(b);
            }
            runBoth(pick(2));
        }
    }

    private static void runBoth(int p) {
        if (model.programs[p] == null) {
            due("run", x.run(p), NONE);
            return;
        }
        String text = "run of " + show(Arrays.asList(model.programs[p])) + " on " + model.packet;
        long want = model.run(p);
        due(text, x.run(p), want);
        due("steps of " + text, x.steps(), model.steps);
        for (int m = 0; m < 2; m++) {
            due("keys after " + text, x.keys(m), model.maps.get(m).size());
            for (long key : model.maps.get(m).keySet()) {
                for (int c = 0; c < 2; c++) {
                    due("value after " + text, x.value(m, (int) key, c), (Long) model.maps.get(m).get(key)[c]);
                }
            }
        }
        if (p == latestOk()) {
            holds("within least and most: " + text, x.least() <= want && want <= x.most());
        }
    }

    /** The program whose ends least and most tell, if it can be told from the model; else -1. */
    private static int latestOk() {
        if (model.fault != OK) {
            return -1;
        }
        for (int p = 0; p < 2; p++) {
            if (model.programs[p] != null && model.programs[1 - p] == null) {
                return p;
            }
        }
        return -1;
    }
}
