public final class Promise10Run extends Checks {
    public static void main(String[] args) {
        due("no program", x.run(0), NONE);
        due("BAD", x.run(2), BAD);
        due("BAD", x.run(-1), BAD);
        due("BAD", x.run(Integer.MIN_VALUE), BAD);
        due("BAD", x.run(Integer.MAX_VALUE), BAD);
        comparisons();
        fresh();
        sumOfPacket();
        maps();
        fresh();
        pointersOnTheStack();
        answerOfGreatWords();
        finish();
    }

    private static void comparisons() {
        int[] words = {0, 1, 5, Integer.MAX_VALUE, Integer.MIN_VALUE, -2, -1};
        // Key 1's value holds the two words, so that the verifier knows neither and both ways stay open.
        for (int a : words) {
            for (int b : words) {
                compare(a, b);
            }
        }
    }

    private static void compare(int a, int b) {
        fresh();
        answers("put", 0, 1, 0, mov(1, 1), mov(2, a), mov(3, b), update(0), exit());
        int[][] start = rows(mov(1, 1), lookup(0), jump(JNE, 0, 0, 1), exit(), load(6, 0, 0), load(7, 0, 1), mov(0, 1));
        int order = Integer.compareUnsigned(a, b);
        boolean[] want = {a == b, a != b, order < 0, order >= 0};
        for (int op = JEQ; op <= JGE; op++) {
            answers(op + " of " + a + " and " + b, 0, 2, want[op - JEQ] ? 1 : 2,
                join(start, jumpReg(op, 6, 7, 1), mov(0, 2), exit()));
            draft(join(start, jump(op, 6, b, 1), mov(0, 2), exit()));
            if (x.verify(0) == OK) {
                due(op + " of " + a + " and imm " + b, x.run(0), want[op - JEQ] ? 1 : 2);
            } else {
                holds("only a jump that is always taken is DEAD: " + op + ", " + b, op == JGE && b == 0);
            }
        }
    }

    private static void sumOfPacket() {
        int[][] sum = rows(mov(0, 0));
        for (int n = 0; n < 4; n++) {
            sum = join(sum, jumpReg(JGE, 1, 2, (3 - n) * 4 + 3), loadByte(3, 1, 0), reg(ADD, 0, 3), imm(ADD, 1, 1));
        }
        passes("sum of up to four bytes", 0, 1020, join(sum, exit()));
        int want = 0;
        for (int n = 0; n < 7; n++) {
            due("sum of " + n, x.run(0), want);
            due("steps", x.steps(), n < 4 ? 3 + 4 * n : 18);
            x.feed(250 + n);
            want += n < 4 ? 250 + n : 0;
        }
    }

    private static void maps() {
        int[][] count = rows(mov(1, 77), lookup(1), jump(JEQ, 0, 0, 5), load(3, 0, 0), imm(ADD, 3, 1), store(0, 3, 0),
            movReg(0, 3), exit(), mov(1, 77), mov(2, 1), mov(3, 500), update(1), exit());
        passes("a counter", 0, TOP, count);
        due("the first run puts", x.run(0), 0);
        for (int n = 2; n < 6; n++) {
            due("run " + n, x.run(0), n);
            due("value", x.value(1, 77, 0), n);
            due("its other cell", x.value(1, 77, 1), 500);
        }
        due("map 0 has none", x.keys(0), 0);
        x.forget();
        due("after forget", x.run(0), 0);
        due("value", x.value(1, 77, 0), 1);
        answers("LOOKUP finds the key of its map alone", 2, 3, 3, mov(1, 77), lookup(0), jump(JEQ, 0, 0, 2),
            mov(0, 2), exit(), mov(0, 3), exit());
        answers("STORE at a moved pointer", 0, TOP, 4, mov(1, 77), lookup(1), jump(JEQ, 0, 0, 4), imm(ADD, 0, 1), mov(3, 4),
            store(0, 3, 0), load(0, 0, 0), exit());
        due("cell 1", x.value(1, 77, 1), 4);
        due("cell 0", x.value(1, 77, 0), 1);
    }

    private static void pointersOnTheStack() {
        answers("a value's pointer by way of the stack", 0, TOP, 0, mov(1, 9), mov(2, 30), mov(3, 31), update(0),
            mov(1, 9), lookup(0), movReg(7, FRAME), store(7, 0, 5), jump(JNE, 0, 0, 1), exit(),
            load(6, FRAME, 5), load(0, 6, 1), imm(SUB, 0, 31), exit());
        packet(60, 61, 62);
        answers("the packet's ends by way of the stack", 0, 255, 61, movReg(7, FRAME), store(7, 1, 0), store(7, 2, 1),
            load(3, 7, 0), load(4, 7, 1), imm(ADD, 3, 1), mov(0, 0), jumpReg(JGE, 3, 4, 1), loadByte(0, 3, 0), exit());
        answers("the frame by way of the stack", 5, 5, 5, movReg(7, FRAME), imm(ADD, 7, 3), store(7, 7, 1), load(6, FRAME, 4),
            mov(3, 5), store(6, 3, -3), load(0, FRAME, 0), exit());
    }

    private static void answerOfGreatWords() {
        answers("the greatest word is a long above 0", TOP, TOP, TOP, mov(0, -1), exit());
        answers("the word below", TOP - 1, TOP - 1, TOP - 1, mov(0, -2), exit());
        draft(mov(0, 1), exit());
        due("verify(1)", x.verify(1), OK);
        due("run(1)", x.run(1), 1);
        due("run(0) is its own program", x.run(0), TOP - 1);
    }
}
