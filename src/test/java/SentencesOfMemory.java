/** What the verifier asks of LOAD, STORE and LOADB, and what it knows behind them. */
public final class SentencesOfMemory extends Sentences {
    /** All six cells are set, cell n to 40 + n; register 5 is FRAME 0. */
    private static int[][] fullStack() {
        int[][] all = rows(movReg(5, FRAME));
        for (int cell = 0; cell < 6; cell++) {
            all = join(all, mov(3, 40 + cell), store(5, 3, cell));
        }
        return all;
    }

    public static void main(String[] args) {
        pointerKinds();
        stackBounds();
        valueBounds();
        loadFromStack();
        loadFromValue();
        storeOnStack();
        storeIntoValue();
        byteKinds();
        byteBounds();
        byteKnown();
        farOffsets();
        farByteOffsets();
        finish();
    }

    private static void pointerKinds() {
        sentence("LOAD, STORE: the pointer is FRAME or VALUE (s = 8: FRAME 0), else KIND");
        for (boolean value : new boolean[] {false, true}) {
            int[][] start = join(allKinds(value, 1), store(FRAME_IN, SCALAR_IN, 0));
            for (int pointer : KINDS) {
                int[][] load = join(start, load(4, pointer, 0), mov(0, 0), exit());
                int[][] store = join(start, store(pointer, SCALAR_IN, 0), mov(0, 0), exit());
                if (pointer == FRAME_IN || pointer == KEY_IN && value) {
                    good("LOAD by " + pointer, 0, 0, load);
                    good("STORE by " + pointer, 0, 0, store);
                } else {
                    bad("LOAD by " + pointer, KIND, start.length, load);
                    bad("STORE by " + pointer, KIND, start.length, store);
                    bad("LOAD by " + pointer + " before BOUNDS", KIND, start.length, join(start, load(4, pointer, 6), exit()));
                    bad("STORE by " + pointer + " before BOUNDS", KIND, start.length, join(start, store(pointer, 3, 6), exit()));
                }
            }
        }
        good("s = 8", 9, 9, mov(3, 9), movReg(5, FRAME), store(5, 3, 0), load(0, FRAME, 0), exit());
    }

    private static int[] moved(int r, int by) {
        return by < 0 ? imm(SUB, r, -by) : imm(ADD, r, by);
    }

    private static void stackBounds() {
        sentence("cell + off not 0..5: BOUNDS");
        int[][] full = fullStack();
        for (int by = -8; by <= 8; by++) {
            for (int off = -14; off <= 14; off++) {
                int cell = by + off;
                int[][] load = join(full, moved(5, by), load(0, 5, off), exit());
                int[][] store = rows(movReg(5, FRAME), mov(3, 7), moved(5, by), store(5, 3, off), load(0, FRAME, cell), exit());
                if (cell >= 0 && cell <= 5) {
                    good("LOAD from cell " + by + " + " + off, 40 + cell, 40 + cell, load);
                    due("run", x.run(0), 40 + cell);
                    good("STORE in cell " + by + " + " + off, 7, 7, store);
                    due("run", x.run(0), 7);
                } else {
                    bad("LOAD from cell " + by + " + " + off, BOUNDS, full.length + 1, load);
                    bad("STORE in cell " + by + " + " + off, BOUNDS, 3, store);
                }
            }
        }
        for (int off = -2; off <= 7; off++) {
            if (off < 0 || off > 5) {
                bad("LOAD by the frame itself, " + off, BOUNDS, full.length, join(full, load(0, FRAME, off), exit()));
            } else {
                good("LOAD by the frame itself, " + off, 40 + off, 40 + off, join(full, load(0, FRAME, off), exit()));
            }
        }
    }

    private static void valueBounds() {
        sentence("cell + off not 0..5 (VALUE: 0..1): BOUNDS");
        int[][] value = valuePointer();
        for (int by = -4; by <= 8; by++) {
            for (int off = -9; off <= 7; off++) {
                int cell = by + off;
                int[][] load = join(value, moved(0, by), load(0, 0, off), exit());
                int[][] store = join(value, mov(3, 7), moved(0, by), store(0, 3, off), mov(0, 0), exit());
                if (cell >= 0 && cell <= 1) {
                    good("LOAD from cell " + by + " + " + off, 0, TOP, load);
                    good("STORE in cell " + by + " + " + off, 0, 0, store);
                } else {
                    bad("LOAD from cell " + by + " + " + off, BOUNDS, value.length + 1, load);
                    bad("STORE in cell " + by + " + " + off, BOUNDS, value.length + 2, store);
                }
            }
        }
    }

    private static void loadFromStack() {
        sentence("LOAD from the stack: the cell's known, NOTHING: UNSET");
        for (int set = 0; set < 6; set++) {
            for (int cell = 0; cell < 6; cell++) {
                int[][] all = join(span(3, 9), movReg(5, FRAME), store(5, 6, set), load(0, FRAME, cell), exit());
                if (cell == set) {
                    good("cell " + cell, 3, 9, all);
                } else {
                    bad("cell " + cell + " behind a STORE in " + set, UNSET, 10, all);
                }
            }
        }
        bad("set on the other way alone", UNSET, 5,
            mov(1, 0), delete(0), movReg(5, FRAME), jump(JEQ, 0, 0, 1), store(5, 0, 2), load(0, 5, 2), exit());
        good("set on both ways", 1, 9, mov(1, 0), delete(0), movReg(5, FRAME), jump(JEQ, 0, 0, 2), store(5, 0, 2), ja(2),
            mov(0, 9), store(5, 0, 2), load(0, 5, 2), exit());
        bad("BOUNDS before UNSET", BOUNDS, 0, load(0, FRAME, 6), exit());
    }

    private static void loadFromValue() {
        sentence("from VALUE: SCALAR of all words");
        good("cell 0", 0, TOP, join(valuePointer(), load(0, 0, 0), exit()));
        good("cell 1", 0, TOP, join(valuePointer(), load(0, 0, 1), exit()));
        good("behind a STORE of 7 as well", 0, TOP, join(valuePointer(), mov(3, 7), store(0, 3, 1), load(0, 0, 1), exit()));
        bad("SCALAR", KIND, 7, join(valuePointer(), load(3, 0, 0), load(0, 3, 0), exit()));
    }

    private static void storeOnStack() {
        sentence("STORE on the stack: the cell gets what is known of s (s = 8: FRAME 0)");
        for (int cell = 0; cell < 6; cell++) {
            good("SCALAR", 3, 9, join(span(3, 9), movReg(5, FRAME), store(5, 6, cell), load(0, 5, cell), exit()));
            good("the later one", 4, 4, join(span(3, 9), movReg(5, FRAME), store(5, 6, cell), mov(6, 4), store(5, 6, cell),
                load(0, 5, cell), exit()));
            good("PACKET", 0, 255, movReg(5, FRAME), store(5, 1, cell), mov(0, 0), load(3, 5, cell), jumpReg(JGE, 3, 2, 1),
                loadByte(0, 3, 0), exit());
            good("END", 0, 255, movReg(5, FRAME), store(5, 2, cell), mov(0, 0), load(3, 5, cell), jumpReg(JGE, 1, 3, 1),
                loadByte(0, 1, 0), exit());
            good("FRAME 2", 6, 6, movReg(5, FRAME), imm(ADD, 5, 2), store(5, 5, cell - 2), mov(0, 6), load(3, FRAME, cell),
                store(3, 0, -2), load(0, FRAME, 0), exit());
            bad("FRAME 2, not cell 6", BOUNDS, 5, movReg(5, FRAME), imm(ADD, 5, 2), store(5, 5, cell - 2), mov(0, 6),
                load(3, FRAME, cell), store(3, 0, 4), exit());
            good("FRAME 0 by 8", 6, 6, movReg(5, FRAME), store(5, FRAME, cell), mov(0, 6), load(3, FRAME, cell),
                store(3, 0, 5), load(0, FRAME, 5), exit());
            bad("FRAME 0 by 8, not cell -1", BOUNDS, 4, movReg(5, FRAME), store(5, FRAME, cell), mov(0, 6), load(3, FRAME, cell),
                store(3, 0, -1), exit());
            good("VALUE 1", 0, TOP, join(valuePointer(), movReg(5, FRAME), imm(ADD, 0, 1), store(5, 0, cell), load(3, 5, cell),
                load(0, 3, -1), exit()));
            bad("VALUE 1, not cell 2", BOUNDS, 10, join(valuePointer(), movReg(5, FRAME), imm(ADD, 0, 1), store(5, 0, cell),
                load(3, 5, cell), load(0, 3, 1), exit()));
            good("MAYBE", 0, TOP, mov(1, 5), lookup(0), movReg(5, FRAME), store(5, 0, cell), load(3, 5, cell),
                jump(JNE, 3, 0, 1), exit(), load(0, 3, 0), exit());
        }
    }

    private static void storeIntoValue() {
        sentence("into VALUE: s must be SCALAR, else KIND");
        int[][] start = allKinds(true, 1);
        for (int s : KINDS) {
            for (int cell = 0; cell <= 1; cell++) {
                int[][] all = join(start, store(KEY_IN, s, cell), mov(0, 0), exit());
                if (s == SCALAR_IN) {
                    good("register " + s, 0, 0, all);
                } else {
                    bad("register " + s, KIND, start.length, all);
                }
            }
            bad("BOUNDS before KIND, register " + s, BOUNDS, start.length, join(start, store(KEY_IN, s, 2), mov(0, 0), exit()));
        }
        bad("FRAME itself", KIND, start.length, join(start, store(KEY_IN, FRAME, 0), mov(0, 0), exit()));
        good("a span", 0, 0, mov(1, 0), delete(0), movReg(7, 0), mov(1, 5), lookup(0), jump(JNE, 0, 0, 1), exit(),
            store(0, 7, 0), mov(0, 0), exit());
        bad("the stack's cell gets nothing by it", UNSET, start.length + 1, join(start, store(KEY_IN, SCALAR_IN, 0),
            load(0, FRAME, 0), exit()));
    }

    private static void byteKinds() {
        sentence("LOADB: s is PACKET, else KIND");
        for (boolean value : new boolean[] {false, true}) {
            // One byte is shown first, so that only the kind can be at fault.
            int[][] start = join(rows(mov(0, 0), jumpReg(JLT, 1, 2, 1), exit()), allKinds(value, 0));
            for (int s : new int[] {KEY_IN, SCALAR_IN, FRAME_IN, END_IN, FRAME}) {
                bad("register " + s, KIND, start.length, join(start, loadByte(0, s, 0), exit()));
            }
            good("PACKET", 0, 255, join(start, loadByte(0, PACKET_IN, 0), exit()));
        }
        bad("before BOUNDS", KIND, 0, loadByte(0, 2, 5), exit());
    }

    private static void byteBounds() {
        sentence("lo + off below 0 or hi + off not below SAFE: BOUNDS");
        // Registers 3 PACKET 10..10 and SAFE 11.
        int[][] eleven = rows(mov(0, 0), movReg(3, 1), imm(ADD, 3, 10), jumpReg(JLT, 3, 2, 1), exit());
        for (int off = -13; off <= 13; off++) {
            int[][] first = join(eleven, loadByte(0, 1, off), exit());
            int[][] tenth = join(eleven, loadByte(0, 3, off), exit());
            fresh();
            for (int n = 0; n < 11; n++) {
                x.feed(60 + n);
            }
            if (off >= 0 && off <= 10) {
                answers("0 + " + off, 0, 255, 60 + off, first);
            } else {
                refused("0 + " + off, BOUNDS, 5, first);
            }
            if (off >= -10 && off <= 0) {
                answers("10 + " + off, 0, 255, 70 + off, tenth);
            } else {
                refused("10 + " + off, BOUNDS, 5, tenth);
            }
        }
        // Register 7 becomes PACKET 2..5, SAFE is 11 by register 4, which is PACKET 10..10.
        int[][] spread = rows(movReg(6, 2), movReg(7, 1), movReg(5, FRAME), store(5, 1, 0), mov(1, 0), delete(0), imm(MUL, 0, 3),
            imm(ADD, 0, 2), reg(ADD, 7, 0), load(4, FRAME, 0), imm(ADD, 4, 10), mov(0, 0), jumpReg(JLT, 4, 6, 1), exit());
        for (int off = -7; off <= 9; off++) {
            int[][] all = join(spread, loadByte(0, 7, off), exit());
            if (off >= -2 && off <= 5) {
                good("2..5 + " + off, 0, 255, all);
            } else {
                bad("2..5 + " + off, BOUNDS, 14, all);
            }
        }
    }

    private static void byteKnown() {
        sentence("LOADB: SCALAR 0..255");
        int[][] one = rows(mov(0, 0), jumpReg(JLT, 1, 2, 1), exit());
        good("0..255", 0, 255, join(one, loadByte(0, 1, 0), exit()));
        good("in any register", 1, 256, rows(mov(0, 1), jumpReg(JLT, 1, 2, 1), exit(), loadByte(7, 1, 0), reg(ADD, 0, 7), exit()));
        good("over its own pointer", 0, 255, join(one, loadByte(1, 1, 0), movReg(0, 1), exit()));
        fresh();
        x.feed(255);
        answers("255", 0, 255, 255, join(one, loadByte(0, 1, 0), exit()));
    }

    private static void farOffsets() {
        sentence("For LOAD, STORE, LOADB off is -100..100, else BOUNDS: LOAD and STORE");
        for (int far : new int[] {101, 102, 105, -101, -102}) {
            // The pointer stands so that the cell would be there.
            int[][] there = rows(mov(3, 8), movReg(5, FRAME), store(5, 3, 0), store(5, 3, 5),
                moved(5, far > 0 ? -100 : 100), moved(5, far > 0 ? 100 - far : -100 - far));
            bad("LOAD " + far, BOUNDS, 6, join(there, load(0, 5, far), exit()));
            bad("STORE " + far, BOUNDS, 6, join(there, store(5, 3, far), mov(0, 0), exit()));
            int[][] value = join(valuePointer(), mov(3, 8), moved(0, far > 0 ? -100 : 100), moved(0, far > 0 ? 100 - far : -100 - far));
            bad("LOAD from VALUE " + far, BOUNDS, 9, join(value, load(0, 0, far), exit()));
            bad("STORE into VALUE " + far, BOUNDS, 9, join(value, store(0, 3, far), mov(0, 0), exit()));
        }
        for (int off : new int[] {100, 99, -99, -100}) {
            int[][] there = rows(mov(3, 8), movReg(5, FRAME), moved(5, -off));
            good("STORE and LOAD " + off, 8, 8, join(there, store(5, 3, off), load(0, 5, off), exit()));
            due("run", x.run(0), 8);
            good("VALUE " + off, 0, TOP, join(valuePointer(), mov(3, 8), moved(0, -off), store(0, 3, off), load(0, 0, off), exit()));
        }
        for (int off : new int[] {LEAST_INT, LEAST_INT + 1, MOST_INT - 1, MOST_INT}) {
            bad("LOAD " + off, BOUNDS, 0, load(0, FRAME, off), exit());
            bad("STORE " + off, BOUNDS, 2, mov(3, 8), movReg(5, FRAME), store(5, 3, off), mov(0, 0), exit());
            bad("LOAD " + off + " from above", BOUNDS, 2, movReg(5, FRAME), imm(ADD, 5, 100), load(0, 5, off), exit());
            bad("LOAD " + off + " from below", BOUNDS, 2, movReg(5, FRAME), imm(SUB, 5, 100), load(0, 5, off), exit());
            bad("LOAD from VALUE " + off, BOUNDS, 6, join(valuePointer(), load(0, 0, off), exit()));
        }
    }

    private static void farByteOffsets() {
        sentence("For LOAD, STORE, LOADB off is -100..100, else BOUNDS: LOADB");
        int[][] many = rows(mov(0, 0), movReg(3, 1), imm(ADD, 3, 255), jumpReg(JLT, 3, 2, 1), exit());
        good("100", 0, 255, join(many, loadByte(0, 1, 100), exit()));
        good("-100", 0, 255, join(many, loadByte(0, 3, -100), exit()));
        for (int far : new int[] {101, 102, 200, MOST_INT}) {
            bad("" + far, BOUNDS, 5, join(many, loadByte(0, 1, far), exit()));
        }
        for (int far : new int[] {-101, -102, -200, LEAST_INT}) {
            bad("" + far, BOUNDS, 5, join(many, loadByte(0, 3, far), exit()));
        }
    }
}
