/** The sentences of promises 1 to 14. */
public final class SentencesOfPromises extends Sentences {
    private static final int[] NAMED = {0, 1, 2, 3, 4, 5, 6, 10, 11, 12, 13, 14, 15, 16,
        20, 21, 22, 23, 24, 31, 32, 33, 34, 40, 41, 42, 50, 51, 52, 60};
    private static final int[] NO_PROGRAM = {-1, 2, -2, 3, 256, LEAST_INT, MOST_INT};

    public static void main(String[] args) {
        newObject();
        ops();
        registers();
        shiftImmediates();
        fortyInstructions();
        refusedChangesNothing();
        wipes();
        verified();
        faultsLeaveTheProgram();
        draftStays();
        badNumbers();
        places();
        leasts();
        mosts();
        feeds();
        fullPacket();
        nexts();
        runs();
        noPrograms();
        stepCounts();
        values();
        noValues();
        keyCounts();
        forgets();
        fiveHundredAndTwelveCalls();
        finish();
    }

    private static void verifies(int p, int[]... rows) {
        draft(rows);
        due("verify(" + p + ")", x.verify(p), OK);
    }

    private static void put(int map, int key, int first, int second) {
        verifies(0, mov(1, key), mov(2, first), mov(3, second), update(map), exit());
        x.run(0);
    }

    private static void newObject() {
        sentence("No instructions, no program, an empty packet, empty maps.");
        due("instructions", x.wipe(), 0);
        for (int p = 0; p <= 1; p++) {
            due("program", x.run(p), NONE);
            due("keys", x.keys(p), 0);
            for (int key : new int[] {0, 1, -1}) {
                due("value", x.value(p, key, 0), -1);
                due("value", x.value(p, key, 1), -1);
            }
        }
        due("packet", x.next(), 0);
        due("verify of no instructions", x.verify(0), OUT);
        FilterMachine first = x;
        put(0, 1, 2, 3);
        x.feed(1);
        fresh();
        due("another object's instructions", x.wipe(), 0);
        due("another object's program", x.run(0), NONE);
        due("another object's packet", x.next(), 0);
        due("another object's keys", x.keys(0), 0);
        due("the first has its own", first.keys(0), 1);
    }

    private static void ops() {
        sentence("False if op is none of those named");
        boolean[] named = new boolean[100];
        for (int op : NAMED) {
            named[op] = true;
        }
        for (int op = -70; op < 100; op++) {
            boolean good = op >= 0 && named[op];
            due("op " + op, x.code(op, 0, 0, 0, 0), good);
            due("it is counted", x.wipe(), good ? 1 : 0);
        }
        fresh();
        for (int op : new int[] {LEAST_INT, -256, 100, 160, 255, 256, 316, 65536, MOST_INT}) {
            due("op " + op, x.code(op, 0, 0, 0, 0), false);
        }
        due("none is counted", x.wipe(), 0);
    }

    private static void registers() {
        sentence("False if d is outside 0..7");
        for (int op : NAMED) {
            fresh();
            for (int d = -2; d <= 9; d++) {
                due("d " + d + " of " + op, x.code(op, d, 0, 0, 0), d >= 0 && d <= 7);
            }
            due("least d of " + op, x.code(op, LEAST_INT, 0, 0, 0), false);
            due("most d of " + op, x.code(op, MOST_INT, 0, 0, 0), false);
            due("those taken", x.wipe(), 8);
        }
        sentence("False if s is outside 0..8");
        for (int op : NAMED) {
            fresh();
            for (int s = -2; s <= 10; s++) {
                due("s " + s + " of " + op, x.code(op, 0, s, 0, 0), s >= 0 && s <= 8);
            }
            due("least s of " + op, x.code(op, 0, LEAST_INT, 0, 0), false);
            due("most s of " + op, x.code(op, 0, MOST_INT, 0, 0), false);
            due("those taken", x.wipe(), 9);
        }
    }

    private static void shiftImmediates() {
        sentence("False if imm of a SHR (op 6) is outside 0..31");
        for (int imm = -3; imm <= 34; imm++) {
            boolean good = imm >= 0 && imm <= 31;
            due("SHR " + imm, x.code(6, 0, 0, 0, imm), good);
            due("it is counted", x.wipe(), good ? 1 : 0);
        }
        due("least", x.code(6, 0, 0, 0, LEAST_INT), false);
        due("most", x.code(6, 0, 0, 0, MOST_INT), false);
        for (int op : NAMED) {
            for (int imm : new int[] {-1, 32, LEAST_INT, MOST_INT}) {
                if (op != 6) {
                    due("op " + op + " with imm " + imm, x.code(op, 0, 0, 0, imm), true);
                }
            }
            x.wipe();
        }
    }

    private static void fortyInstructions() {
        sentence("False if there are 40");
        for (int n = 0; n < 40; n++) {
            due("instruction " + n, x.code(60, 0, 0, 0, 0), true);
        }
        for (int op : NAMED) {
            due("one more, " + op, x.code(op, 0, 0, 0, 0), false);
        }
        due("still 40", x.wipe(), 40);
        due("room again", x.code(60, 0, 0, 0, 0), true);
    }

    private static void refusedChangesNothing() {
        sentence("False, changing nothing");
        verifies(1, mov(0, 3), exit());
        x.code(7, 0, 0, 0, 0);
        x.code(0, 8, 0, 0, 0);
        x.code(0, 0, 9, 0, 0);
        x.code(6, 0, 0, 0, 32);
        due("the draft is the same", x.verify(0), OK);
        due("run(0)", x.run(0), 3);
        due("its number", x.wipe(), 2);
        int[][] full = rows(mov(0, 0));
        for (int n = 1; n < 39; n++) {
            full = join(full, imm(ADD, 0, 1));
        }
        verifies(0, join(full, exit()));
        x.code(0, 0, 0, 0, 77);
        due("a full draft is the same", x.verify(1), OK);
        due("run(1)", x.run(1), 38);
        due("place", x.place(), -1);
    }

    private static void wipes() {
        sentence("Removes all instructions of the draft; answers their number.");
        for (int n = 0; n <= 40; n++) {
            fresh();
            for (int m = 0; m < n; m++) {
                due("code", x.code(0, 0, 0, 0, 0), true);
            }
            due("wipe of " + n, x.wipe(), n);
            due("wipe of none", x.wipe(), 0);
            due("no instruction is left", x.verify(0), OUT);
            due("place", x.place(), 0);
        }
        fresh();
        verifies(0, mov(0, 3), exit());
        x.wipe();
        due("the program stays", x.run(0), 3);
        due("the least stays", x.least(), 3);
        draft(mov(0, 4), exit());
        due("nothing of the old draft comes back", x.verify(1), OK);
        due("run(1)", x.run(1), 4);
    }

    private static void verified() {
        sentence("Verifies the draft: OK, and it is the program of number p from now on");
        for (int p = 0; p <= 1; p++) {
            fresh();
            verifies(p, mov(0, 3), exit());
            due("the program", x.run(p), 3);
            due("the other one is not there", x.run(1 - p), NONE);
            verifies(1 - p, mov(0, 4), exit());
            due("the program stays", x.run(p), 3);
            due("the other one", x.run(1 - p), 4);
            verifies(p, mov(0, 5), imm(ADD, 0, 1), exit());
            due("a new program", x.run(p), 6);
            due("the other one stays", x.run(1 - p), 4);
            verifies(p, mov(0, 7), exit());
            due("a shorter one", x.run(p), 7);
            due("steps", x.steps(), 2);
            draft(mov(0, 8), exit());
            due("a draft alone is no program", x.run(p), 7);
        }
        fresh();
        int[][] full = rows(mov(0, 0));
        for (int n = 1; n < 39; n++) {
            full = join(full, imm(ADD, 0, 1));
        }
        verifies(0, join(full, exit()));
        full[0] = mov(0, 100);
        verifies(1, join(full, exit()));
        full[0] = mov(0, 200);
        draft(join(full, exit()));
        due("forty instructions stay, program 0", x.run(0), 38);
        due("forty instructions stay, program 1", x.run(1), 138);
    }

    private static void faultsLeaveTheProgram() {
        sentence("else the fault, and program p is as before");
        int[][] eleven = rows(mov(0, 1));
        for (int n = 0; n < 11; n++) {
            eleven = join(eleven, jump(JEQ, 0, 0, 0));
        }
        int[][][] drafts = {rows(mov(0, 9)), rows(movReg(0, 5), exit()), rows(movReg(0, 1), exit()), rows(load(0, FRAME, 6), exit()),
            join(eleven, exit()), rows(mov(0, 9), exit(), exit())};
        for (int fault = OUT; fault <= DEAD; fault++) {
            for (int p = 0; p <= 1; p++) {
                fresh();
                draft(drafts[fault - OUT]);
                due("fault " + fault, x.verify(p), fault);
                due("still no program", x.run(p), NONE);
                verifies(p, mov(0, 3), exit());
                draft(drafts[fault - OUT]);
                due("fault " + fault, x.verify(p), fault);
                due("the program is as before", x.run(p), 3);
                due("the other one, too", x.run(1 - p), NONE);
            }
        }
    }

    private static void draftStays() {
        sentence("The draft stays.");
        verifies(0, mov(0, 3), exit());
        due("behind OK", x.verify(1), OK);
        due("the same program", x.run(1), 3);
        due("BAD", x.verify(2), BAD);
        due("its number", x.wipe(), 2);
        draft(mov(0, 3));
        due("a fault", x.verify(0), OUT);
        due("code", x.code(60, 0, 0, 0, 0), true);
        due("it goes on", x.verify(0), OK);
        due("its number", x.wipe(), 2);
        x.code(60, 0, 0, 0, 0);
        due("a changed draft does not change the program", x.run(0), 3);
    }

    private static void badNumbers() {
        sentence("BAD if p is outside 0..1. (verify)");
        for (int p : NO_PROGRAM) {
            fresh();
            due("no draft, p " + p, x.verify(p), BAD);
            due("place", x.place(), -1);
            draft(mov(0, 3), exit());
            due("a good draft, p " + p, x.verify(p), BAD);
            due("least", x.least(), -1);
            due("no program 0", x.run(0), NONE);
            due("no program 1", x.run(1), NONE);
            draft(mov(0, 3));
            due("a bad draft, p " + p, x.verify(p), BAD);
        }
    }

    private static void places() {
        sentence("The place of the fault of the latest verify that was not BAD; -1 if that answered OK or there was none.");
        due("none", x.place(), -1);
        x.verify(2);
        due("BAD alone is none", x.place(), -1);
        for (int n = 0; n < 39; n++) {
            fresh();
            for (int m = 0; m < n; m++) {
                x.code(0, 3, 0, 0, 0);
            }
            x.code(60, 0, 0, 0, 0);
            due("verify", x.verify(0), UNSET);
            due("a fault at " + n, x.place(), n);
            x.verify(-1);
            due("BAD leaves it", x.place(), n);
            x.wipe();
            x.run(0);
            due("so do wipe and run", x.place(), n);
        }
        verifies(1, mov(0, 1), exit());
        due("OK", x.place(), -1);
        x.verify(2);
        due("BAD behind OK", x.place(), -1);
        x.code(60, 0, 0, 0, 0);
        x.verify(1);
        due("DEAD", x.place(), 2);
        x.verify(0);
        due("DEAD for the other number", x.place(), 2);
    }

    private static void leasts() {
        sentence("The least lo that was known of register 0 at an EXIT on some path, for the latest verify with OK; -1 if there was none.");
        due("none", x.least(), -1);
        x.verify(0);
        due("a fault is none", x.least(), -1);
        x.verify(2);
        due("BAD is none", x.least(), -1);
        verifies(0, mov(0, 0), exit());
        due("0", x.least(), 0);
        verifies(1, mov(0, -1), exit());
        due("the greatest word", x.least(), TOP);
        int[][] start = rows(mov(1, 0), delete(0));
        verifies(0, join(start, jump(JEQ, 0, 0, 2), mov(0, 7), exit(), mov(0, 9), exit()));
        due("of the first path", x.least(), 7);
        verifies(0, join(start, jump(JEQ, 0, 0, 2), mov(0, 9), exit(), mov(0, 8), exit()));
        due("of the second path", x.least(), 8);
        verifies(0, join(start, jump(JEQ, 0, 0, 1), mov(0, 9), imm(ADD, 0, 1), exit()));
        due("of two paths to one EXIT", x.least(), 1);
        draft(join(start, jump(JEQ, 0, 0, 2), mov(0, 0), exit(), ja(-1), exit()));
        due("a fault behind an EXIT", x.verify(0), OUT);
        due("leaves it", x.least(), 1);
        x.verify(5);
        due("BAD leaves it", x.least(), 1);
        x.run(1);
        due("run leaves it", x.least(), 1);
    }

    private static void mosts() {
        sentence("Likewise the greatest hi.");
        due("none", x.most(), -1);
        x.verify(0);
        due("a fault is none", x.most(), -1);
        x.verify(2);
        due("BAD is none", x.most(), -1);
        verifies(0, mov(0, 0), exit());
        due("0", x.most(), 0);
        verifies(1, mov(0, -1), exit());
        due("the greatest word", x.most(), TOP);
        int[][] start = rows(mov(1, 0), delete(0));
        verifies(0, join(start, jump(JEQ, 0, 0, 2), mov(0, 9), exit(), mov(0, 7), exit()));
        due("of the first path", x.most(), 9);
        verifies(0, join(start, jump(JEQ, 0, 0, 2), mov(0, 7), exit(), mov(0, 8), exit()));
        due("of the second path", x.most(), 8);
        verifies(0, join(start, jump(JEQ, 0, 0, 1), mov(0, 9), imm(ADD, 0, 1), exit()));
        due("of two paths to one EXIT", x.most(), 10);
        draft(join(start, jump(JEQ, 0, 0, 2), mov(0, -1), exit(), ja(-1), exit()));
        due("a fault behind an EXIT", x.verify(0), OUT);
        due("leaves it", x.most(), 10);
        x.verify(5);
        due("BAD leaves it", x.most(), 10);
        x.run(1);
        due("run leaves it", x.most(), 10);
    }

    private static void feeds() {
        sentence("Appends a byte (v's low 8 bits) to the packet.");
        int[] given = {0, 1, 127, 128, 255, 256, 257, 511, 65536, -1, -128, -255, -256, -257, LEAST_INT, MOST_INT};
        verifies(0, mov(0, 999), jumpReg(JGE, 1, 2, 1), loadByte(0, 1, 0), exit());
        for (int v : given) {
            due("next", x.next() <= 1, true);
            due("feed " + v, x.feed(v), true);
            due("byte of " + v, x.run(0), Math.floorMod(v, 256));
        }
        x.next();
        for (int n = 0; n < 24; n++) {
            due("feed", x.feed(50 + n), true);
        }
        for (int n = 0; n < 24; n++) {
            verifies(0, mov(0, 999), movReg(3, 1), imm(ADD, 3, n), jumpReg(JGE, 3, 2, 1), loadByte(0, 3, 0), exit());
            due("byte " + n + " stands in its order", x.run(0), 50 + n);
        }
    }

    private static void fullPacket() {
        sentence("False if it has 24.");
        for (int n = 0; n < 24; n++) {
            due("byte " + n, x.feed(n), true);
        }
        due("byte 24", x.feed(24), false);
        due("byte 24 again", x.feed(-1), false);
        verifies(0, mov(0, 999), movReg(3, 1), imm(ADD, 3, 24), jumpReg(JLT, 2, 3, 1), loadByte(0, 3, -1), exit());
        due("the last is as before", x.run(0), 23);
        verifies(0, mov(0, 999), jumpReg(JGE, 1, 2, 1), loadByte(0, 1, 0), exit());
        due("the first is as before", x.run(0), 0);
        due("how many", x.next(), 24);
        due("room again", x.feed(7), true);
        due("run", x.run(0), 7);
    }

    private static void nexts() {
        sentence("Empties the packet; answers how many bytes it had.");
        for (int n = 0; n <= 24; n++) {
            fresh();
            verifies(0, mov(0, 999), jumpReg(JGE, 1, 2, 1), loadByte(0, 1, 0), exit());
            for (int m = 0; m < n; m++) {
                x.feed(5);
            }
            due("next of " + n, x.next(), n);
            due("the packet is empty", x.run(0), 999);
            due("next of none", x.next(), 0);
            x.feed(6);
            due("a new first byte", x.run(0), 6);
            due("a run leaves the packet", x.next(), 1);
        }
    }

    private static void runs() {
        sentence("Runs program p on the packet: its answer as a long.");
        verifies(0, mov(0, -1), exit());
        due("the greatest word", x.run(0), TOP);
        verifies(0, mov(0, -2), exit());
        due("the word that NONE would be as an int", x.run(0), TOP - 1);
        verifies(1, mov(0, LEAST_INT), exit());
        due("the middle word", x.run(1), 2147483648L);
        due("run again", x.run(0), TOP - 1);
    }

    private static void noPrograms() {
        sentence("BAD if p is outside 0..1, NONE if there is no program p.");
        for (int p : NO_PROGRAM) {
            due("p " + p, x.run(p), BAD);
        }
        due("none", x.run(0), NONE);
        due("none", x.run(1), NONE);
        verifies(1, mov(0, 3), exit());
        due("program 1", x.run(1), 3);
        due("no program 0", x.run(0), NONE);
        verifies(0, mov(0, 4), exit());
        for (int p : NO_PROGRAM) {
            due("p " + p, x.run(p), BAD);
        }
    }

    private static void stepCounts() {
        sentence("How many instructions the latest run that had a program executed; 0 if there was none.");
        due("none", x.steps(), 0);
        x.run(0);
        x.run(2);
        due("runs without a program", x.steps(), 0);
        verifies(0, mov(0, 1), exit());
        due("verify alone", x.steps(), 0);
        for (int n = 1; n < 40; n++) {
            fresh();
            int[][] all = rows();
            for (int m = 0; m < n; m++) {
                all = join(all, mov(0, m));
            }
            verifies(1, join(all, exit()));
            x.run(1);
            due("with EXIT", x.steps(), n + 1);
            x.run(0);
            due("NONE leaves it", x.steps(), n + 1);
            x.run(-1);
            due("BAD leaves it", x.steps(), n + 1);
            x.run(1);
            due("a second run counts anew", x.steps(), n + 1);
        }
        fresh();
        verifies(0, mov(0, 9), jumpReg(JGE, 1, 2, 2), loadByte(0, 1, 0), imm(ADD, 0, 1), exit());
        x.run(0);
        due("what is leapt over does not count", x.steps(), 3);
        x.feed(1);
        x.run(0);
        due("the longer way", x.steps(), 5);
    }

    private static void values() {
        sentence("Cell c (0, 1) of the value of key k (a word given as an int) in map m, as a long");
        for (int map = 0; map <= 1; map++) {
            for (int key : new int[] {0, 1, -1, LEAST_INT, MOST_INT}) {
                fresh();
                put(map, key, -1, LEAST_INT);
                due("cell 0", x.value(map, key, 0), TOP);
                due("cell 1", x.value(map, key, 1), 2147483648L);
                due("not in the other map", x.value(1 - map, key, 0), -1);
                put(map, key, 0, 7);
                due("cell 0 anew", x.value(map, key, 0), 0);
                due("cell 1 anew", x.value(map, key, 1), 7);
                verifies(0, mov(1, key), lookup(map), jump(JNE, 0, 0, 1), exit(), mov(3, -2), store(0, 3, 1), mov(0, 0), exit());
                x.run(0);
                due("cell 1 behind a STORE", x.value(map, key, 1), TOP - 1);
                due("cell 0 behind it", x.value(map, key, 0), 0);
            }
        }
    }

    private static void noValues() {
        sentence("-1 if m or c is outside or the key has none.");
        put(0, 5, 6, 7);
        put(1, 5, 8, 9);
        int[] outside = {-1, 2, -2, 3, LEAST_INT, MOST_INT};
        for (int far : outside) {
            for (int n = 0; n <= 1; n++) {
                due("m " + far, x.value(far, 5, n), -1);
                due("c " + far, x.value(n, 5, far), -1);
            }
            due("both " + far, x.value(far, 5, far), -1);
        }
        due("another key", x.value(0, 6, 0), -1);
        due("another key", x.value(1, -5, 1), -1);
        verifies(0, mov(1, 5), delete(0), exit());
        x.run(0);
        due("taken away", x.value(0, 5, 0), -1);
        due("in its map alone", x.value(1, 5, 0), 8);
        x.forget();
        due("forgotten", x.value(1, 5, 1), -1);
    }

    private static void keyCounts() {
        sentence("How many keys map m has; -1 if m is outside 0..1.");
        for (int far : new int[] {-1, 2, -2, 3, LEAST_INT, MOST_INT}) {
            due("m " + far, x.keys(far), -1);
        }
        for (int map = 0; map <= 1; map++) {
            fresh();
            for (int n = 0; n < 6; n++) {
                put(map, n, 0, 0);
                due("keys", x.keys(map), Math.min(n + 1, 4));
                put(map, n / 2, 1, 1);
                due("the same key again", x.keys(map), Math.min(n + 1, 4));
                due("the other map", x.keys(1 - map), 0);
            }
            for (int n = 5; n >= 0; n--) {
                verifies(0, mov(1, n), delete(map), exit());
                x.run(0);
                due("keys behind a DELETE", x.keys(map), Math.min(n, 4));
            }
            due("m " + (map + 2), x.keys(map + 2), -1);
        }
    }

    private static void forgets() {
        sentence("Both maps become empty.");
        x.forget();
        due("two empty maps", x.keys(0) + x.keys(1), 0);
        for (int map = 0; map <= 1; map++) {
            for (int n = 0; n < 4; n++) {
                put(map, n, n, n);
            }
        }
        x.feed(1);
        x.forget();
        for (int map = 0; map <= 1; map++) {
            due("keys", x.keys(map), 0);
            for (int n = 0; n < 4; n++) {
                due("value", x.value(map, n, 0), -1);
            }
        }
        due("the packet stays", x.next(), 1);
        due("the program stays", x.run(0), 0);
        due("it puts its key again", x.value(1, 3, 1), 3);
        due("the draft stays", x.wipe(), 5);
        for (int n = 10; n < 13; n++) {
            put(1, n, n, n);
            due("there is room", x.keys(1), n - 8);
        }
    }

    private static void fiveHundredAndTwelveCalls() {
        sentence("An object is used for at most 512 calls after it has been made");
        FilterMachine long512 = new FilterMachine();
        for (int n = 0; n < 250; n++) {
            same("feed", long512.feed(n) ? 1 : 0, 1);
            same("next", long512.next(), 1);
        }
        same("call 501", long512.code(0, 1, 0, 0, 3) ? 1 : 0, 1);
        same("call 502", long512.code(0, 2, 0, 0, 4) ? 1 : 0, 1);
        same("call 503", long512.code(0, 3, 0, 0, 5) ? 1 : 0, 1);
        same("call 504", long512.code(51, 0, 0, 0, 1) ? 1 : 0, 1);
        same("call 505", long512.code(60, 0, 0, 0, 0) ? 1 : 0, 1);
        same("call 506", long512.verify(1), OK);
        same("call 507", long512.most(), 1);
        same("call 508", long512.run(1), 0);
        same("call 509", long512.steps(), 5);
        same("call 510", long512.keys(1), 1);
        same("call 511", long512.value(1, 3, 0), 4);
        same("call 512", long512.value(1, 3, 1), 5);
    }
}
