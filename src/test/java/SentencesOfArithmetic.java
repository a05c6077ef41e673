/** What the verifier knows behind arithmetic. */
public final class SentencesOfArithmetic extends Sentences {
    private static final long HALF = 2147483648L;

    public static void main(String[] args) {
        moves();
        additions();
        subtractions();
        products();
        ands();
        ors();
        shifts();
        packetPointers();
        packetEnds();
        cellPointers();
        anyCell();
        otherKinds();
        finish();
    }

    /** SCALAR a..b with SCALAR c..d gives SCALAR least..most; a single second word is tried as an imm, too. */
    private static void gives(int operation, long a, long b, long c, long d, long least, long most) {
        String what = a + ".." + b + " and " + c + ".." + d;
        good(what, least, most, join(spans(a, b, c, d), reg(operation, 6, 7), movReg(0, 6), exit()));
        if (c == d && (operation != SHR || c < 32)) {
            good(what + " as imm", least, most, join(span(a, b), imm(operation, 6, (int) c), movReg(0, 6), exit()));
        }
    }

    private static void moves() {
        sentence("MOV imm: SCALAR imm..imm. MOV s: what is known of s (FRAME 0 for s = 8).");
        for (long word : new long[] {0, 1, HALF - 1, HALF, TOP}) {
            good("imm " + word, word, word, mov(0, (int) word), exit());
            good("imm over a span", word, word, join(span(3, 9), mov(6, (int) word), movReg(0, 6), exit()));
        }
        good("SCALAR", 3, 9, join(span(3, 9), movReg(0, 6), exit()));
        good("s keeps what is known", 3, 9, join(span(3, 9), movReg(4, 6), mov(4, 1), movReg(0, 6), exit()));
        good("PACKET and END", 1, 255 + 2, movReg(3, 1), movReg(4, 2), mov(0, 1), jumpReg(JGE, 3, 4, 2),
            loadByte(0, 3, 0), imm(ADD, 0, 2), exit());
        good("FRAME 0", 4, 4, movReg(3, FRAME), mov(0, 4), store(3, 0, 0), load(0, FRAME, 0), exit());
        bad("FRAME 0 has no cell below", BOUNDS, 2, movReg(3, FRAME), mov(0, 4), store(3, 0, -1), exit());
        good("VALUE", 0, TOP, join(valuePointer(), movReg(3, 0), load(0, 3, 1), exit()));
        good("MAYBE", 0, TOP, mov(1, 5), lookup(0), movReg(3, 0), jump(JEQ, 3, 0, 1), load(0, 3, 1), exit());
    }

    private static void additions() {
        sentence("ADD lo+lo..hi+hi, each all words 0..2^32-1 if an end is no word");
        gives(ADD, 10, 20, 3, 4, 13, 24);
        gives(ADD, 10, 20, 0, 0, 10, 20);
        gives(ADD, 0, TOP - 1, 1, 1, 1, TOP);
        gives(ADD, 0, TOP - 1, 0, 1, 0, TOP);
        gives(ADD, 7, TOP, 0, 0, 7, TOP);
        gives(ADD, 7, TOP, 1, 1, 0, TOP);
        gives(ADD, 7, TOP, 0, 1, 0, TOP);
        gives(ADD, TOP, TOP, 1, 1, 0, TOP);
        gives(ADD, HALF, HALF, HALF - 1, HALF - 1, TOP, TOP);
        gives(ADD, HALF, HALF, HALF, HALF, 0, TOP);
        gives(ADD, TOP, TOP, TOP, TOP, 0, TOP);
    }

    private static void subtractions() {
        sentence("SUB lo-hi..hi-lo, each all words 0..2^32-1 if an end is no word");
        gives(SUB, 10, 20, 3, 4, 6, 17);
        gives(SUB, 10, 20, 0, 10, 0, 20);
        gives(SUB, 10, 20, 10, 10, 0, 10);
        gives(SUB, 10, 20, 11, 11, 0, TOP);
        gives(SUB, 10, 20, 0, 11, 0, TOP);
        gives(SUB, 3, 3, 5, 5, 0, TOP);
        gives(SUB, TOP, TOP, 0, TOP, 0, TOP);
        gives(SUB, TOP, TOP, 1, TOP, 0, TOP - 1);
        gives(SUB, 0, 0, 0, 0, 0, 0);
        gives(SUB, 0, 0, 1, 1, 0, TOP);
        good("of itself, by intervals", 90, 110,
            join(span(10, 20), movReg(0, 6), imm(ADD, 0, 100), reg(SUB, 0, 6), exit()));
    }

    private static void products() {
        sentence("MUL lo*lo..hi*hi, each all words 0..2^32-1 if an end is no word");
        gives(MUL, 10, 20, 3, 4, 30, 80);
        gives(MUL, 5, 9, 0, 0, 0, 0);
        gives(MUL, 5, TOP, 0, 0, 0, 0);
        gives(MUL, 5, TOP, 1, 1, 5, TOP);
        gives(MUL, 5, TOP, 1, 2, 0, TOP);
        gives(MUL, 65535, 65535, 65537, 65537, TOP, TOP);
        gives(MUL, 65536, 65536, 65536, 65536, 0, TOP);
        gives(MUL, 2, 65536, 3, 65536, 0, TOP);
        gives(MUL, 2, 65535, 3, 65537, 6, TOP);
        gives(MUL, TOP, TOP, TOP, TOP, 0, TOP);
        gives(MUL, 3, TOP, 3, HALF + 1, 0, TOP);
        gives(MUL, 3, HALF, 3, HALF, 0, TOP);
    }

    private static void ands() {
        sentence("AND 0..the lesser hi");
        gives(AND, 12, 20, 5, 7, 0, 7);
        gives(AND, 5, 7, 12, 20, 0, 7);
        gives(AND, 6, 6, 6, 6, 0, 6);
        gives(AND, 6, 6, 0, 0, 0, 0);
        gives(AND, TOP, TOP, TOP, TOP, 0, TOP);
        gives(AND, TOP, TOP, TOP - 1, TOP - 1, 0, TOP - 1);
        gives(AND, 3, 4, 0, TOP, 0, 4);
    }

    private static void ors() {
        sentence("OR the greater lo..the least 2^k-1 that is not below both hi");
        gives(OR, 0, 0, 0, 0, 0, 0);
        gives(OR, 0, 0, 0, 1, 0, 1);
        gives(OR, 0, 1, 0, 0, 0, 1);
        gives(OR, 4, 6, 2, 9, 4, 15);
        gives(OR, 2, 9, 4, 6, 4, 15);
        gives(OR, 3, 7, 3, 7, 3, 7);
        gives(OR, 3, 8, 3, 7, 3, 15);
        gives(OR, 3, 7, 3, 8, 3, 15);
        gives(OR, 8, 8, 8, 8, 8, 15);
        for (int k = 1; k < 32; k++) {
            long power = 1L << k;
            gives(OR, 1, power - 1, 0, 0, 1, power - 1);
            gives(OR, 1, power, 0, 0, 1, 2 * power - 1);
            gives(OR, 0, 0, 1, power, 1, 2 * power - 1);
        }
        gives(OR, TOP, TOP, 0, 0, TOP, TOP);
        gives(OR, TOP - 1, TOP - 1, 1, 1, TOP - 1, TOP);
    }

    private static void shifts() {
        sentence("SHR by an imm (by a SCALAR n..n: n's low 5 bits): lo >> n..hi >> n");
        gives(SHR, 8, 100, 0, 0, 8, 100);
        gives(SHR, 8, 100, 1, 1, 4, 50);
        gives(SHR, 7, 7, 3, 3, 0, 0);
        gives(SHR, 8, 8, 3, 3, 1, 1);
        gives(SHR, HALF, TOP, 31, 31, 1, 1);
        gives(SHR, HALF - 1, TOP, 31, 31, 0, 1);
        gives(SHR, 8, 100, 31, 31, 0, 0);
        gives(SHR, 8, 100, 32, 32, 8, 100);
        gives(SHR, 8, 100, 33, 33, 4, 50);
        gives(SHR, 8, 100, 65, 65, 4, 50);
        gives(SHR, 8, 100, TOP - 30, TOP - 30, 4, 50);
        gives(SHR, HALF, TOP, TOP, TOP, 1, 1);
        sentence("SHR by any other SCALAR 0..hi");
        gives(SHR, 8, 100, 0, 1, 0, 100);
        gives(SHR, 8, 100, 1, 2, 0, 100);
        gives(SHR, 8, 100, 32, 64, 0, 100);
        gives(SHR, 5, TOP, 30, 31, 0, TOP);
        gives(SHR, 0, 0, 0, TOP, 0, 0);
    }

    private static void packetPointers() {
        sentence("But if d is PACKET, ADD of a SCALAR: PACKET, both ends added, if its hi stays up to 255");
        int[][] end = rows(mov(0, 1), exit());
        for (int n : new int[] {0, 1, 24, 25, 254, 255}) {
            good("+ " + n, 1, 1, join(rows(imm(ADD, 1, n)), end));
            good("+ register " + n, 1, 1, join(rows(mov(3, n), reg(ADD, 1, 3)), end));
            bad("+ " + n + " and over", KIND, 1, join(rows(imm(ADD, 1, n), imm(ADD, 1, 256 - n)), end));
            good("+ " + n + " and up to 255", 1, 1, join(rows(imm(ADD, 1, n), imm(ADD, 1, 255 - n)), end));
        }
        for (int n : new int[] {256, 257, 65536, MOST_INT, LEAST_INT, -256, -1}) {
            bad("+ " + n, KIND, 0, join(rows(imm(ADD, 1, n)), end));
            bad("+ register " + n, KIND, 1, join(rows(mov(3, n), reg(ADD, 1, 3)), end));
        }
        int[][] kept = rows(movReg(7, 1), mov(1, 0), delete(0));
        good("0..255", 1, 1, join(join(kept, imm(MUL, 0, 255), reg(ADD, 7, 0)), end));
        bad("0..256", KIND, 4, join(join(kept, imm(MUL, 0, 256), reg(ADD, 7, 0)), end));
        good("255 + 0..0", 1, 1, join(join(kept, imm(MUL, 0, 0), imm(ADD, 7, 255), reg(ADD, 7, 0)), end));
        bad("255 + 0..1", KIND, 4, join(join(kept, imm(ADD, 7, 255), reg(ADD, 7, 0)), end));
        bad("all words", KIND, 4, join(join(kept, imm(MUL, 0, -1), reg(ADD, 7, 0)), end));
    }

    private static void packetEnds() {
        sentence("PACKET, both ends added");
        // Register 7 becomes PACKET 3..5, and SAFE 4, as the test shows no more than lo + 1.
        int[][] moved = rows(movReg(6, 2), movReg(7, 1), mov(1, 0), delete(0), imm(MUL, 0, 2), imm(ADD, 7, 1),
            imm(ADD, 0, 2), reg(ADD, 7, 0), mov(0, 0), jumpReg(JLT, 7, 6, 1), exit());
        good("lo - 3", 0, 255, join(moved, loadByte(0, 7, -3), exit()));
        bad("lo - 4", BOUNDS, 11, join(moved, loadByte(0, 7, -4), exit()));
        good("hi - 2", 0, 255, join(moved, loadByte(0, 7, -2), exit()));
        bad("hi - 1", BOUNDS, 11, join(moved, loadByte(0, 7, -1), exit()));
    }

    private static void cellPointers() {
        sentence("if d is FRAME or VALUE, ADD or SUB of a SCALAR n..n with n up to 100: the cell so much up or down");
        int[][] frame = rows(movReg(6, FRAME), mov(3, 8));
        int[][] value = join(valuePointer(), movReg(6, 0));
        for (int operation = ADD; operation <= SUB; operation++) {
            for (int n : new int[] {0, 1, 5, 99, 100}) {
                int back = operation == ADD ? -n : n;
                good("FRAME by " + n, 8, 8, join(frame, imm(operation, 6, n), store(6, 3, back), load(0, FRAME, 0), exit()));
                good("FRAME by register " + n, 8, 8,
                    join(frame, mov(4, n), reg(operation, 6, 4), store(6, 3, back), load(0, FRAME, 0), exit()));
                good("VALUE by " + n, 0, TOP, join(value, imm(operation, 6, n), load(0, 6, back), exit()));
                bad("VALUE by " + n + ", cell -1", BOUNDS, 8, join(value, imm(operation, 6, n), load(0, 6, back - 1), exit()));
                bad("VALUE by " + n + ", cell 2", BOUNDS, 8, join(value, imm(operation, 6, n), load(0, 6, back + 2), exit()));
            }
            for (int n : new int[] {101, 102, 256, MOST_INT, LEAST_INT, -100, -1}) {
                bad("FRAME by " + n, KIND, 2, join(frame, imm(operation, 6, n), mov(0, 0), exit()));
                bad("FRAME by register " + n, KIND, 3, join(frame, mov(4, n), reg(operation, 6, 4), mov(0, 0), exit()));
                bad("VALUE by " + n, KIND, 7, join(value, imm(operation, 6, n), mov(0, 0), exit()));
            }
            for (int n : new int[] {0, 1, 99, 100}) {
                bad("FRAME by a span from " + n, KIND, 9,
                    join(spans(0, 0, n, n + 1), movReg(6, FRAME), reg(operation, 6, 7), mov(0, 0), exit()));
            }
            bad("VALUE by a span", KIND, 7, mov(1, 0), delete(0), movReg(7, 0), mov(1, 5), lookup(0), jump(JNE, 0, 0, 1), exit(),
                reg(operation, 0, 7), mov(0, 0), exit());
        }
    }

    private static void anyCell() {
        sentence("FRAME c (cell c, any int); VALUE c (cell c of a key's value)");
        int[][] there = rows(movReg(3, FRAME), mov(4, 8));
        for (int operation = ADD; operation <= SUB; operation++) {
            int[][] away = there;
            for (int n = 0; n < 17; n++) {
                away = join(away, imm(operation, 3, 100));
            }
            good("far away", 0, 0, join(away, mov(0, 0), exit()));
            int[][] back = away;
            for (int n = 0; n < 17; n++) {
                back = join(back, imm(3 - operation, 3, 100));
            }
            good("and back", 8, 8, join(back, store(3, 4, 5), load(0, FRAME, 5), exit()));
            due("run", x.run(0), 8);
        }
        good("VALUE, away and back", 0, TOP,
            join(valuePointer(), imm(SUB, 0, 100), imm(SUB, 0, 100), imm(ADD, 0, 99), imm(ADD, 0, 100), load(0, 0, 2), exit()));
    }

    private static void otherKinds() {
        sentence("Any other arithmetic with something that is not SCALAR: KIND (also an imm counts as SCALAR imm..imm).");
        for (boolean value : new boolean[] {false, true}) {
            int[][] start = allKinds(value, 1);
            for (int operation = ADD; operation <= SHR; operation++) {
                for (int d : KINDS) {
                    for (int s : KINDS) {
                        kindsMeet(operation, d, s, value, join(start, reg(operation, d, s), mov(0, 0), exit()));
                    }
                    kindsMeet(operation, d, FRAME, value, join(start, reg(operation, d, FRAME), mov(0, 0), exit()));
                    kindsMeet(operation, d, SCALAR_IN, value, join(start, imm(operation, d, 1), mov(0, 0), exit()));
                }
            }
        }
    }

    private static void kindsMeet(int operation, int d, int s, boolean value, int[][] all) {
        boolean scalars = d == SCALAR_IN && s == SCALAR_IN;
        boolean packet = d == PACKET_IN && s == SCALAR_IN && operation == ADD;
        boolean cell = (d == FRAME_IN || d == KEY_IN && value) && s == SCALAR_IN && operation <= SUB;
        String what = "op " + operation + " with registers " + d + " and " + s;
        if (scalars || packet || cell) {
            good(what, 0, 0, all);
        } else {
            bad(what, KIND, all.length - 3, all);
        }
    }
}
