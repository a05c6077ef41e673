/** Which ways of a conditional jump the verifier follows, and what it knows on them. */
public final class SentencesOfJumps extends Sentences {
    private static final int JUMP_AT = 9;

    public static void main(String[] args) {
        followedWays();
        cuts();
        cutsInAProgram();
        maybes();
        maybeAndOtherWords();
        packetBeforeEnd();
        packetNotBeforeEnd();
        endNotBeforePacket();
        intervalsOfBytes();
        safeIsAtLeast();
        otherKinds();
        finish();
    }

    private static boolean takes(int op, long first, long second) {
        boolean[] holds = {first == second, first != second, first < second, first >= second};
        return holds[op - JEQ];
    }

    /** The ends of those first words that go this way with some second word; none if least is above most. */
    private static long[] goers(int op, boolean goal, long[] span) {
        long least = TOP + 1;
        long most = -1;
        for (long first = span[0]; first <= span[1]; first++) {
            for (long second = span[2]; second <= span[3]; second++) {
                if (takes(op, first, second) == goal) {
                    least = Math.min(least, first);
                    most = Math.max(most, first);
                }
            }
        }
        return new long[] {least, most};
    }

    private interface Judge {
        void look(int op, long[] span, int[] jump);
    }

    /** All pairs of intervals within four words, at both ends of the words. */
    private static void allSpans(Judge judge) {
        for (long base : new long[] {0, 2147483646L, TOP - 3}) {
            for (int code = 0; code < 256; code++) {
                long[] span = {base + code % 4, base + code / 4 % 4, base + code / 16 % 4, base + code / 64};
                for (int op = JEQ; op <= JGE && span[0] <= span[1] && span[2] <= span[3]; op++) {
                    judge.look(op, span, jumpReg(op, 0, 7, 0));
                    if (span[2] == span[3]) {
                        judge.look(op, span, jump(op, 0, (int) span[2], 0));
                    }
                }
            }
        }
    }

    private static int[][] program(long[] span, int[] jump, int off, int[]... behind) {
        return join(join(spans(span[0], span[1], span[2], span[3]), movReg(0, 6), sent(jump, off)), behind);
    }

    private static String text(int op, long[] span) {
        return span[0] + ".." + span[1] + " " + op + " " + span[2] + ".." + span[3];
    }

    private static void followedWays() {
        sentence("JEQ, JNE, JLT, JGE of two SCALARS: a way is only followed if some pair of words from the two intervals takes it");
        allSpans((op, span, jump) -> {
            boolean next = goers(op, false, span)[1] >= 0;
            boolean goal = goers(op, true, span)[1] >= 0;
            int[][] all = program(span, jump, 2, mov(0, 5), exit(), mov(0, 6), exit());
            if (next && goal) {
                good(text(op, span), 5, 6, all);
            } else {
                bad(text(op, span), DEAD, next ? JUMP_AT + 3 : JUMP_AT + 1, all);
            }
        });
    }

    private static void cuts() {
        sentence("and on it, if the second one is n..n, the first one's interval is cut to what goes that way (=: n..n; <: up to n-1; >=: from n; not =: only an end that is n is taken off)");
        allSpans((op, span, jump) -> {
            long[] next = goers(op, false, span);
            long[] goal = goers(op, true, span);
            if (span[2] != span[3]) {
                next = span;
                goal = span;
            }
            if (goers(op, false, span)[1] < 0) {
                good(text(op, span), goal[0], goal[1], program(span, jump, 0, exit()));
            } else if (goers(op, true, span)[1] < 0) {
                good(text(op, span), next[0], next[1], program(span, jump, 0, exit()));
            } else {
                // The other way answers the one end and then the other, so that it hides neither.
                for (int end = 0; end <= 1; end++) {
                    good("next of " + text(op, span), next[0], next[1],
                        program(span, jump, 1, exit(), mov(0, (int) next[end]), exit()));
                    good("goal of " + text(op, span), goal[0], goal[1],
                        program(span, jump, 2, mov(0, (int) goal[end]), exit(), exit()));
                }
            }
        });
    }

    private static void cutsInAProgram() {
        sentence("not =: only an end that is n is taken off");
        int[][] start = join(span(10, 20), movReg(0, 6));
        good("inside", 10, 20, join(start, jump(JNE, 0, 15, 1), mov(0, 10), exit()));
        good("lo", 11, 20, join(start, jump(JNE, 0, 10, 1), mov(0, 20), exit()));
        good("hi", 10, 19, join(start, jump(JNE, 0, 20, 1), mov(0, 10), exit()));
        good("lo twice", 12, 20, join(start, jump(JEQ, 0, 10, 2), jump(JEQ, 0, 11, 1), ja(1), mov(0, 20), exit()));
        sentence("the first one's interval is cut");
        good("not that of a copy", 10, 20, join(start, movReg(4, 0), jump(JLT, 4, 15, 1), mov(0, 20), exit()));
        good("not that of the second one", 10, 20, join(start, mov(4, 15), jumpReg(JLT, 4, 0, 1), mov(0, 20), exit()));
    }

    private static final int[][] COPIES = rows(mov(1, 5), lookup(0), movReg(4, 0), movReg(6, 0), movReg(7, FRAME),
        store(7, 0, 0), store(7, 0, 1), store(7, 0, 2), store(7, 0, 3), store(7, 0, 4), store(7, 0, 5), mov(3, 0));
    private static final int[][] HOLDERS = rows(movReg(2, 0), movReg(2, 4), movReg(2, 6), load(2, FRAME, 0), load(2, FRAME, 1),
        load(2, FRAME, 2), load(2, FRAME, 3), load(2, FRAME, 4), load(2, FRAME, 5));

    private static void maybes() {
        sentence("MAYBE (d) and SCALAR 0..0 with JEQ, JNE: both ways; where it is 0 every MAYBE of the same n becomes SCALAR 0..0, where it isn't VALUE 0.");
        int at = COPIES.length;
        for (int tested : new int[] {0, 4, 6}) {
            for (int[] holder : HOLDERS) {
                for (int form = 0; form < 2; form++) {
                    int[] equal = form == 0 ? jump(JEQ, tested, 0, 2) : jumpReg(JEQ, tested, 3, 2);
                    int[] unequal = form == 0 ? jump(JNE, tested, 0, 2) : jumpReg(JNE, tested, 3, 2);
                    good("JEQ: 0 at its goal", 0, 0, join(COPIES, equal, mov(0, 0), exit(), holder, movReg(0, 2), exit()));
                    bad("JEQ: no 0 behind it", KIND, at + 2, join(COPIES, sent(equal, 1), holder, imm(MUL, 2, 1), exit()));
                    good("JNE: VALUE 0 at its goal", 0, TOP, join(COPIES, unequal, mov(0, 0), exit(), holder, load(0, 2, 0), exit()));
                    good("JNE: its cell 1", 0, TOP, join(COPIES, unequal, mov(0, 0), exit(), holder, load(0, 2, 1), exit()));
                    bad("JNE: not cell 2", BOUNDS, at + 4, join(COPIES, unequal, mov(0, 0), exit(), holder, load(0, 2, 2), exit()));
                    bad("JNE: not cell -1", BOUNDS, at + 4, join(COPIES, unequal, mov(0, 0), exit(), holder, load(0, 2, -1), exit()));
                    good("JEQ: VALUE 0 behind it", 0, TOP,
                        join(COPIES, sent(equal, 3), holder, load(0, 2, 0), exit(), mov(0, 0), exit()));
                    good("JNE: 0 behind it", 0, 7, join(COPIES, sent(unequal, 3), holder, movReg(0, 2), exit(), mov(0, 7), exit()));
                }
            }
        }
    }

    private static int[] sent(int[] jump, int off) {
        int[] other = jump.clone();
        other[3] = off;
        return other;
    }

    private static void maybeAndOtherWords() {
        sentence("MAYBE (d) and SCALAR 0..0 with JEQ, JNE");
        int[][] start = rows(mov(1, 0), delete(0), movReg(7, 0), mov(1, 5), lookup(0));
        for (int op = JEQ; op <= JNE; op++) {
            for (int word : new int[] {1, 2, -1, LEAST_INT}) {
                bad("imm " + word, KIND, 5, join(start, jump(op, 0, word, 0), mov(0, 0), exit()));
                bad("register " + word, KIND, 6, join(start, mov(3, word), jumpReg(op, 0, 3, 0), mov(0, 0), exit()));
            }
            bad("0..1", KIND, 5, join(start, jumpReg(op, 0, 7, 0), mov(0, 0), exit()));
            bad("as s", KIND, 6, join(start, mov(3, 0), jumpReg(op, 3, 0, 0), mov(0, 0), exit()));
            good("0..0 as imm", 0, 0, join(start, jump(op, 0, 0, 0), mov(0, 0), exit()));
            good("0..0 in a register", 0, 0, join(start, imm(MUL, 7, 0), jumpReg(op, 0, 7, 0), mov(0, 0), exit()));
        }
        for (int op = JLT; op <= JGE; op++) {
            bad("with " + op, KIND, 5, join(start, jump(op, 0, 0, 0), mov(0, 0), exit()));
        }
    }

    /** Register 3 becomes PACKET n..n, register 0 SCALAR 0..0. */
    private static int[][] bytes(int n) {
        return rows(mov(0, 0), movReg(3, 1), imm(ADD, 3, n));
    }

    private static void packetBeforeEnd() {
        sentence("PACKET lo..hi and END (as d and s) with JLT, JGE: both ways; on the way < END: SAFE is at least lo + 1");
        for (int n : new int[] {0, 1, 2, 23, 24, 100, 254, 255}) {
            int[][] start = bytes(n);
            good("JLT " + n, 0, 255, join(start, jumpReg(JLT, 3, 2, 1), exit(), loadByte(0, 3, 0), exit()));
            bad("JLT " + n + " + 1", BOUNDS, 5, join(start, jumpReg(JLT, 3, 2, 1), exit(), loadByte(0, 3, 1), exit()));
            good("JGE " + n, 0, 255, join(start, jumpReg(JGE, 3, 2, 1), loadByte(0, 3, 0), exit()));
            bad("JGE " + n + " + 1", BOUNDS, 4, join(start, jumpReg(JGE, 3, 2, 1), loadByte(0, 3, 1), exit()));
            good("both ways of JLT", 0, 1, join(start, jumpReg(JLT, 3, 2, 1), exit(), mov(0, 1), exit()));
            good("both ways of JGE", 0, 1, join(start, jumpReg(JGE, 3, 2, 1), exit(), mov(0, 1), exit()));
        }
        good("both ways, though it was shown", 0, 3, join(bytes(3), jumpReg(JGE, 3, 2, 3), jumpReg(JLT, 3, 2, 1), exit(),
            mov(0, 3), exit()));
    }

    private static void packetNotBeforeEnd() {
        sentence("on the way where it is not < END nothing more is known");
        for (int n : new int[] {0, 1, 24, 255}) {
            bad("JLT", BOUNDS, 4, join(bytes(n), jumpReg(JLT, 3, 2, 0), loadByte(0, 1, 0), exit()));
            bad("JGE", BOUNDS, 5, join(bytes(n), jumpReg(JGE, 3, 2, 1), exit(), loadByte(0, 1, 0), exit()));
        }
        int[][] two = join(bytes(1), jumpReg(JLT, 3, 2, 1), exit());
        good("and nothing less", 0, 255, join(two, imm(ADD, 3, 9), jumpReg(JGE, 3, 2, 1), exit(), loadByte(0, 1, 1), exit()));
        bad("still no third byte", BOUNDS, 8, join(two, imm(ADD, 3, 9), jumpReg(JGE, 3, 2, 1), exit(), loadByte(0, 1, 2), exit()));
    }

    private static void endNotBeforePacket() {
        sentence("END and PACKET lo..hi (as d and s) with JLT, JGE: on the way END >= it SAFE is at least lo.");
        for (int n : new int[] {1, 2, 23, 24, 100, 254, 255}) {
            int[][] start = bytes(n);
            good("JGE " + n, 0, 255, join(start, jumpReg(JGE, 2, 3, 1), exit(), loadByte(0, 3, -1), exit()));
            bad("JGE " + n + ", one more", BOUNDS, 5, join(start, jumpReg(JGE, 2, 3, 1), exit(), loadByte(0, 3, 0), exit()));
            good("JLT " + n, 0, 255, join(start, jumpReg(JLT, 2, 3, 1), loadByte(0, 3, -1), exit()));
            bad("JLT " + n + ", one more", BOUNDS, 4, join(start, jumpReg(JLT, 2, 3, 1), loadByte(0, 3, 0), exit()));
            bad("the other way of JGE", BOUNDS, 4, join(start, jumpReg(JGE, 2, 3, 0), loadByte(0, 1, 0), exit()));
            bad("the other way of JLT", BOUNDS, 5, join(start, jumpReg(JLT, 2, 3, 1), exit(), loadByte(0, 1, 0), exit()));
            good("both ways of JGE", 0, 1, join(start, jumpReg(JGE, 2, 3, 1), exit(), mov(0, 1), exit()));
            good("both ways of JLT", 0, 1, join(start, jumpReg(JLT, 2, 3, 1), exit(), mov(0, 1), exit()));
        }
        bad("JGE 0 shows no byte", BOUNDS, 5, join(bytes(0), jumpReg(JGE, 2, 3, 1), exit(), loadByte(0, 1, 0), exit()));
        bad("JLT 0 shows no byte", BOUNDS, 4, join(bytes(0), jumpReg(JLT, 2, 3, 1), loadByte(0, 1, 0), exit()));
        good("0: both ways all the same", 0, 1, join(bytes(0), jumpReg(JLT, 2, 3, 1), exit(), mov(0, 1), exit()));
    }

    private static void intervalsOfBytes() {
        sentence("on the way < END: SAFE is at least lo + 1; on the way END >= it SAFE is at least lo: lo, not hi");
        // Register 7 becomes PACKET 4..6, register 6 is END, register 4 PACKET 0..0 again.
        int[][] start = rows(movReg(6, 2), movReg(7, 1), movReg(5, FRAME), store(5, 1, 0), mov(1, 0), delete(0),
            imm(MUL, 0, 2), imm(ADD, 0, 4), reg(ADD, 7, 0), load(4, FRAME, 0), mov(0, 0));
        good("< END", 0, 255, join(start, jumpReg(JLT, 7, 6, 1), exit(), loadByte(0, 4, 4), exit()));
        bad("< END, no more", BOUNDS, 13, join(start, jumpReg(JLT, 7, 6, 1), exit(), loadByte(0, 4, 5), exit()));
        good("END >=", 0, 255, join(start, jumpReg(JGE, 6, 7, 1), exit(), loadByte(0, 4, 3), exit()));
        bad("END >=, no more", BOUNDS, 13, join(start, jumpReg(JGE, 6, 7, 1), exit(), loadByte(0, 4, 4), exit()));
    }

    private static void safeIsAtLeast() {
        sentence("SAFE is at least");
        int[][] four = join(bytes(3), jumpReg(JLT, 3, 2, 1), exit());
        for (int[] lesser : rows(jumpReg(JLT, 1, 2, 1), jumpReg(JGE, 2, 1, 1), jumpReg(JGE, 2, 3, 1))) {
            good("a lesser test takes nothing", 0, 255, join(four, lesser, exit(), loadByte(0, 1, 3), exit()));
            bad("and gives nothing", BOUNDS, 7, join(four, lesser, exit(), loadByte(0, 1, 4), exit()));
        }
        good("a greater one gives more", 0, 255, join(four, imm(ADD, 3, 4), jumpReg(JLT, 3, 2, 1), exit(), loadByte(0, 1, 7), exit()));
        good("END >= by one more", 0, 255, join(four, imm(ADD, 3, 2), jumpReg(JGE, 2, 3, 1), exit(), loadByte(0, 1, 4), exit()));
        bad("each way has its own", BOUNDS, 6, join(bytes(3), jumpReg(JGE, 3, 2, 2), loadByte(0, 1, 3), exit(),
            loadByte(0, 1, 0), exit()));
    }

    private static void otherKinds() {
        sentence("Else KIND. (jumps)");
        for (boolean value : new boolean[] {false, true}) {
            for (int word = 0; word <= 1; word++) {
                int[][] start = allKinds(value, word);
                for (int op = JEQ; op <= JGE; op++) {
                    for (int d : KINDS) {
                        for (int s : KINDS) {
                            kindsMeet(op, d, s, value, word, join(start, jumpReg(op, d, s, 0), mov(0, 0), exit()));
                        }
                        kindsMeet(op, d, FRAME, value, word, join(start, jumpReg(op, d, FRAME, 0), mov(0, 0), exit()));
                        kindsMeet(op, d, SCALAR_IN, value, word, join(start, jump(op, d, word, 0), mov(0, 0), exit()));
                    }
                }
            }
        }
    }

    private static void kindsMeet(int op, int d, int s, boolean value, int word, int[][] all) {
        boolean equality = op == JEQ || op == JNE;
        boolean scalars = d == SCALAR_IN && s == SCALAR_IN;
        boolean maybe = d == KEY_IN && !value && s == SCALAR_IN && word == 0 && equality;
        boolean packet = (d == PACKET_IN && s == END_IN || d == END_IN && s == PACKET_IN) && !equality;
        String what = "op " + op + " with registers " + d + " and " + s;
        if (scalars || maybe || packet) {
            good(what, 0, 0, all);
        } else {
            bad(what, KIND, all.length - 3, all);
        }
    }
}
