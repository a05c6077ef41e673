import java.math.BigInteger;

/** The beginning of the document's Terms: words, programs, what the instructions do when they run. */
public final class SentencesOfInstructions extends Sentences {
    private static final long[] WORDS = {0, 1, 2, 31, 32, 33, 65535, 65536, 2147483647L, 2147483648L, TOP - 1, TOP};

    public static void main(String[] args) {
        words();
        atMostForty();
        registers();
        ignored();
        shifts();
        jumpGoals();
        jumpRelations();
        lookups();
        updates();
        deletes();
        exits();
        beginningPointers();
        beginningUnset();
        cells();
        safeAtFirst();
        finish();
    }

    private static void words() {
        sentence("WORDS are whole numbers 0..4294967295; arithmetic is modulo 2^32.");
        for (long a : WORDS) {
            for (long b : WORDS) {
                for (int operation = ADD; operation <= OR; operation++) {
                    long want = exact(operation, BigInteger.valueOf(a), BigInteger.valueOf(b));
                    String what = a + " " + operation + " " + b;
                    result(what, want, mov(0, (int) a), imm(operation, 0, (int) b), exit());
                    result(what + " by register", want, mov(0, (int) a), mov(3, (int) b), reg(operation, 0, 3), exit());
                }
            }
        }
    }

    private static long exact(int operation, BigInteger a, BigInteger b) {
        BigInteger[] results = {b, a.add(b), a.subtract(b), a.multiply(b), a.and(b), a.or(b)};
        return results[operation].mod(BigInteger.ONE.shiftLeft(32)).longValueExact();
    }

    private static void atMostForty() {
        sentence("A program is a list of at most 40 INSTRUCTIONS (op, d, s, off, imm)");
        int[][] all = rows(mov(0, 0));
        for (int n = 1; n < 39; n++) {
            all = join(all, imm(ADD, 0, 1));
        }
        result("39 and EXIT", 38, join(all, exit()));
        due("steps", x.steps(), 40);
        due("instruction 41", x.code(60, 0, 0, 0, 0), false);
    }

    private static void registers() {
        sentence("registers d and s 0..7 (8 is the FRAME, for s alone), imm a word given as an int");
        for (int r = 0; r < 8; r++) {
            result("register " + r + " as d", 50 + r, mov(r, 50 + r), movReg(0, r), exit());
            result("register " + r + " as s", 50 + r, mov(3, 50 + r), movReg(r, 3), movReg(0, r), exit());
        }
        result("8 is the FRAME", 9, movReg(5, FRAME), mov(3, 9), store(5, 3, 0), load(0, FRAME, 0), exit());
        fresh();
        due("8 is no d", x.code(0, 8, 0, 0, 0), false);
        due("9 is no s", x.code(10, 0, 9, 0, 0), false);
        for (long word : WORDS) {
            result("imm " + word, word, mov(0, (int) word), exit());
        }
    }

    /** Whatever stands in the fields that the row's instruction ignores, the program answers the same. */
    private static void ignores(String fields, long answer, int at, int[]... rows) {
        int[] row = rows[at].clone();
        int[][] changed = rows.clone();
        for (int field = 1; field <= 4; field++) {
            if (fields.indexOf("?dsoi".charAt(field)) < 0) {
                continue;
            }
            int[] odd = field == 1 ? new int[] {0, 1, 2, 3, 4, 5, 6, 7} : field == 2 ? new int[] {0, 1, 2, 3, 4, 5, 6, 7, 8}
                : new int[] {LEAST_INT, -101, -1, 0, 1, 2, 31, 32, 40, 101, MOST_INT};
            for (int v : odd) {
                changed[at] = row.clone();
                changed[at][field] = v;
                fresh();
                packet(77);
                draft(changed);
                due("op " + row[0] + ", field " + field + " = " + v + ": verify", x.verify(0), OK);
                due("op " + row[0] + ", field " + field + " = " + v + ": run", x.run(0), answer);
            }
        }
    }

    private static void ignored() {
        sentence("An instruction uses what is named for it and ignores the rest");
        long[] three = {3, 8, 2, 15, 1, 7, 0};
        for (int operation = 0; operation <= SHR; operation++) {
            ignores("so", three[operation], 1, mov(0, 5), imm(operation, 0, 3), exit());
            ignores("oi", three[operation], 2, mov(0, 5), mov(3, 3), reg(operation, 0, 3), exit());
        }
        ignores("dsi", 5, 1, mov(0, 5), ja(0), exit());
        for (int op = JEQ; op <= JGE; op++) {
            ignores("s", 5, 1, mov(0, 5), jump(op, 0, 5, 0), exit());
            ignores("i", 5, 2, mov(0, 5), mov(3, 6), jumpReg(op, 0, 3, 0), exit());
        }
        int[][] stack = rows(movReg(5, FRAME), mov(4, 7), store(5, 4, 2), load(0, FRAME, 2), exit());
        ignores("i", 7, 2, stack);
        ignores("i", 7, 3, stack);
        ignores("i", 77, 2, mov(0, 0), jumpReg(JGE, 1, 2, 1), loadByte(0, 1, 0), exit());
        ignores("dso", 0, 1, mov(1, 5), lookup(0), jump(JEQ, 0, 0, 1), mov(0, 1), exit());
        ignores("dso", 0, 3, mov(1, 5), mov(2, 6), mov(3, 7), update(1), exit());
        ignores("dso", 0, 1, mov(1, 5), delete(0), exit());
        ignores("dsoi", 5, 1, mov(0, 5), exit());
    }

    private static void shifts() {
        sentence("SHR d imm (0..31)");
        for (int by = 0; by <= 31; by++) {
            result("by " + by, TOP >> by, mov(0, -1), imm(SHR, 0, by), exit());
        }
        sentence("the same with register s in place of imm (SHR: by its low 5 bits)");
        for (long by : WORDS) {
            result("by " + by, 3000000000L >> (by % 32), mov(0, (int) 3000000000L), mov(3, (int) by), reg(SHR, 0, 3), exit());
        }
        result("by itself", 1, mov(0, 33), reg(SHR, 0, 0), imm(SHR, 0, 4), exit());
    }

    private static void jumpGoals() {
        sentence("A jump goes to the instruction off + 1 further on (off at least 0)");
        // DELETE answers 0, but the verifier can't know it: both ways are open.
        int[][] start = rows(mov(1, 0), delete(0), jump(JEQ, 0, 0, 0));
        int[][] ones = start;
        for (int n = 0; n < 36; n++) {
            ones = join(ones, imm(ADD, 0, 1));
        }
        int[][] all = join(ones, exit());
        for (int off = 0; off <= 36; off++) {
            all[2] = jump(JEQ, 0, 0, off);
            result("off " + off, 36 - off, all);
            due("steps of off " + off, x.steps(), 40 - off);
        }
        all[2] = jump(JEQ, 0, 0, 37);
        bad("off 37", OUT, 40, all);
        result("JA with off 0", 3, mov(0, 3), ja(0), exit());
        result("JA onward", 0, mov(1, 0), delete(0), jump(JEQ, 0, 0, 1), ja(1), ja(1), mov(0, 9), exit());
    }

    private static void jumpRelations() {
        sentence("if d is =, not =, <, >= imm or s; else to the next one");
        for (long a : WORDS) {
            for (long b : WORDS) {
                boolean[] holds = {a == b, a != b, a < b, a >= b};
                for (int op = JEQ; op <= JGE; op++) {
                    // What comes out of a map is any word to the verifier, so both ways are open.
                    int[][] start = rows(mov(1, 1), mov(2, (int) a), mov(3, (int) b), update(0), mov(1, 1), lookup(0),
                        jump(JNE, 0, 0, 1), exit(), load(6, 0, 0), load(7, 0, 1), mov(0, 1));
                    long answer = holds[op - JEQ] ? 1 : 2;
                    result(a + " " + op + " " + b, answer, join(start, jumpReg(op, 6, 7, 1), mov(0, 2), exit()));
                    if (op != JGE || b != 0) {
                        result(a + " " + op + " imm " + b, answer, join(start, jump(op, 6, (int) b, 1), mov(0, 2), exit()));
                    }
                }
            }
        }
    }

    /** Puts a key with a value into a map by a run of program 0. */
    private static void put(int map, int key, int first, int second, int answer) {
        draft(mov(1, key), mov(2, first), mov(3, second), update(map), exit());
        due("verify", x.verify(0), OK);
        due("put " + key + " into " + map, x.run(0), answer);
    }

    private static void take(int map, int key, int answer) {
        draft(mov(1, key), delete(map), exit());
        due("verify", x.verify(0), OK);
        due("take " + key + " from " + map, x.run(0), answer);
    }

    /** The answer is 7 where the key has a value, else 3. */
    private static void find(int map, int key, boolean there) {
        draft(mov(1, key), lookup(map), jump(JEQ, 0, 0, 2), mov(0, 7), exit(), mov(0, 3), exit());
        due("verify", x.verify(1), OK);
        due("find " + key + " in " + map, x.run(1), there ? 7 : 3);
    }

    private static void lookups() {
        sentence("register 0 = a pointer to the value of the key in register 1 in map imm (0 or 1), or 0 if it has none");
        for (int map = 0; map < 2; map++) {
            for (int key : new int[] {0, 1, -1, LEAST_INT}) {
                fresh();
                find(map, key, false);
                put(map, key, 0, 0, 0);
                find(map, key, true);
                find(1 - map, key, false);
                find(map, key ^ 2, false);
                take(map, key, 1);
                find(map, key, false);
            }
            fresh();
            for (int n = 0; n < 4; n++) {
                put(map, 10 + n, 20 + n, 30 + n, 0);
            }
            for (int n = 0; n < 4; n++) {
                draft(mov(1, 10 + n), lookup(map), jump(JNE, 0, 0, 1), exit(), load(6, 0, 0), load(0, 0, 1),
                    imm(MUL, 0, 100), reg(ADD, 0, 6), exit());
                due("verify", x.verify(0), OK);
                due("both cells of key " + n + " in " + map, x.run(0), (30 + n) * 100 + 20 + n);
            }
        }
    }

    private static void updates() {
        sentence("the key in register 1 gets the value (register 2, register 3) in map imm; register 0 = 0, or 1 if a new key finds 4 keys there");
        for (int map = 0; map < 2; map++) {
            fresh();
            for (int n = 0; n < 4; n++) {
                put(map, 10 + n, n, -n, 0);
            }
            put(map, 14, 5, 6, 1);
            due("the fifth has no value", x.value(map, 14, 0), -1);
            for (int n = 0; n < 4; n++) {
                due("the others stay", x.value(map, 10 + n, 0), n);
                put(map, 10 + n, 7, 8 + n, 0);
                due("an old key gets its value among 4", x.value(map, 10 + n, 1), 8 + n);
            }
            due("keys", x.keys(map), 4);
            put(1 - map, 14, 5, 6, 0);
            due("the other map has room", x.keys(1 - map), 1);
            take(map, 12, 1);
            put(map, 14, 5, 6, 0);
            due("room behind a DELETE", x.value(map, 14, 1), 6);
        }
    }

    private static void deletes() {
        sentence("takes key register 1 away; register 0 = 1 if it was there, else 0");
        take(0, 5, 0);
        put(0, 5, 1, 1, 0);
        take(1, 5, 0);
        take(0, 6, 0);
        due("the key stays", x.keys(0), 1);
        take(0, 5, 1);
        due("the key is gone", x.keys(0), 0);
        take(0, 5, 0);
        for (int n = 0; n < 4; n++) {
            put(1, n, n, n, 0);
        }
        for (int n = 3; n >= 0; n--) {
            take(1, n, 1);
            due("keys", x.keys(1), n);
        }
    }

    private static void exits() {
        sentence("the answer is register 0");
        result("0", 0, mov(0, 0), mov(3, 1), exit());
        result("the greatest word", TOP, mov(0, -1), exit());
        result("the EXIT of the way that is gone", 4, mov(1, 0), delete(0), jump(JEQ, 0, 0, 2), mov(0, 3), exit(), mov(0, 4), exit());
    }

    private static void beginningPointers() {
        sentence("At the beginning register 1 points to the packet's first byte, register 2 behind its last one");
        for (int n = 0; n <= 25; n++) {
            fresh();
            draft(movReg(3, 1), imm(ADD, 3, n), mov(0, 1), jumpReg(JLT, 3, 2, 1), mov(0, 0), exit());
            due("verify", x.verify(0), OK);
            for (int size = 0; size <= 24; size++) {
                due("byte " + n + " is before the end of " + size, x.run(0), n < size ? 1 : 0);
                x.feed(0);
            }
        }
        fresh();
        packet(11, 12, 13);
        draft(mov(0, 0), jumpReg(JGE, 1, 2, 1), loadByte(0, 1, 0), exit());
        due("verify", x.verify(0), OK);
        due("the first byte", x.run(0), 11);
    }

    private static void beginningUnset() {
        sentence("the other registers and the stack are not set");
        for (int r : new int[] {0, 3, 4, 5, 6, 7}) {
            bad("register " + r, UNSET, 1, mov((r + 1) % 8, 1), movReg(3, r), exit());
        }
        for (int cell = 0; cell < 6; cell++) {
            bad("cell " + cell, UNSET, 0, load(0, FRAME, cell), exit());
        }
        fresh();
        int[][] all = rows(movReg(3, FRAME));
        for (int cell = 0; cell < 6; cell++) {
            all = join(all, store(3, 3, cell));
        }
        for (int r = 0; r < 8; r++) {
            all = join(all, mov(r, 5));
        }
        passes("an earlier draft set all", 5, 5, join(all, exit()));
        for (int r : new int[] {0, 3, 4, 5, 6, 7}) {
            refused("a new draft begins anew: register " + r, UNSET, 0, imm(ADD, r, 1), exit());
        }
        for (int cell = 0; cell < 6; cell++) {
            refused("a new draft begins anew: cell " + cell, UNSET, 0, load(0, FRAME, cell), exit());
        }
        passes("a new draft begins anew: registers 1 and 2", 0, 255, mov(0, 0), jumpReg(JGE, 1, 2, 1), loadByte(0, 1, 0), exit());
        draft(mov(0, 1), mov(1, 1), mov(2, 1), exit());
        due("verify", x.verify(1), OK);
        x.run(1);
        x.feed(66);
        due("a new run begins anew", x.run(0), 66);
    }

    private static void cells() {
        sentence("The stack has 6 CELLS, the FRAME points to the first. The value of a key has 2 cells.");
        int[][] fill = rows(movReg(5, FRAME));
        int[][] sum = rows(mov(0, 0));
        for (int cell = 0; cell < 6; cell++) {
            fill = join(fill, mov(3, 1 << cell), store(5, 3, cell));
            sum = join(sum, load(3, FRAME, cell), reg(ADD, 0, 3));
        }
        for (int n = 0; n < 8; n++) {
            fresh();
            for (int m = 0; m < 8; m++) {
                put(m / 4, m, 100 + m, 200 + m, 0);
            }
            // Both cells of one key are written while all of the stack is in use.
            int[][] write = rows(mov(1, n), lookup(n / 4), jump(JEQ, 0, 0, 4), mov(3, 300 + n), store(0, 3, 0), mov(3, 400 + n),
                store(0, 3, 1));
            draft(join(join(join(fill, write), sum), exit()));
            due("verify", x.verify(0), OK);
            due("the stack keeps its cells", x.run(0), 63);
            for (int m = 0; m < 8; m++) {
                due("cell 0 of key " + m, x.value(m / 4, m, 0), (m == n ? 300 : 100) + m);
                due("cell 1 of key " + m, x.value(m / 4, m, 1), (m == n ? 400 : 200) + m);
            }
        }
    }

    private static void safeAtFirst() {
        sentence("And SAFE: so many bytes the packet has at least (0 at first).");
        fresh();
        for (int n = 0; n < 24; n++) {
            x.feed(n);
        }
        refused("however many bytes there are now", BOUNDS, 0, loadByte(0, 1, 0), exit());
        passes("one byte is shown on the last path", 0, 255, mov(0, 0), jumpReg(JLT, 1, 2, 1), exit(), loadByte(0, 1, 0), exit());
        refused("the next draft has shown none", BOUNDS, 0, loadByte(0, 1, 0), exit());
    }
}
