public final class FilterMachine {
    public static final int OK = 0, OUT = 1, UNSET = 2, KIND = 3, BOUNDS = 4, COMPLEX = 5, DEAD = 6, BAD = -1, NONE = -2;

    // Arithmetic and conditional jumps go by the last digit of op; the tens tell what the second operand is.
    private static final int MOV = 0, ADD = 1, SUB = 2, MUL = 3, AND = 4, OR = 5, SHR = 6;
    private static final int EQUAL = 1, UNEQUAL = 2, LESS = 3, NOT_LESS = 4;
    private static final int JA = 20, LOAD = 40, STORE = 41, LOADB = 42, LOOKUP = 50, UPDATE = 51, DELETE = 52, EXIT = 60;
    private static final int ARITHMETIC_IMM = 0, ARITHMETIC_REG = 1, JUMP_IMM = 2, JUMP_REG = 3, MEMORY = 4, MAP = 5;

    private static final int NOTHING = 0, SCALAR = 1, PACKET = 2, END = 3, FRAME = 4, VALUE = 5, MAYBE = 6;

    private static final long GREATEST_WORD = 4294967295L;
    private static final int MOST_INSTRUCTIONS = 40, PROGRAMS = 2, DRAFT = 2, PROGRAMS_AND_DRAFT = 3, DRAFT_START = 80, ALL_INSTRUCTIONS = 120;
    private static final int MOST_BRANCHES = 10, MOST_TURNS = 1000000;
    private static final int MOST_BYTES = 24, MOST_PACKET_REACH = 255, MOST_CELL_MOVE = 100, MOST_OFFSET = 100;
    private static final int MAPS = 2, MOST_KEYS = 4, ALL_KEYS = 8, VALUE_CELLS = 2, STACK_CELLS = 6, ALL_CELLS = 22;

    // What is known is held in slots: the registers, the frame, the constant operand of an instruction, the stack.
    private static final int REGISTERS = 8, RUN_REGISTERS = 9, FRAME_SLOT = 8, CONSTANT_SLOT = 9, STACK_SLOT = 10, SLOTS = 16, SAVED_SLOTS = 160;

    // Programs 0 and 1 and the draft stand one behind the other.
    private final int[] ops = new int[ALL_INSTRUCTIONS];
    private final int[] targets = new int[ALL_INSTRUCTIONS];
    private final int[] sources = new int[ALL_INSTRUCTIONS];
    private final int[] offsets = new int[ALL_INSTRUCTIONS];
    private final int[] immediates = new int[ALL_INSTRUCTIONS];
    private final int[] lengths = new int[PROGRAMS_AND_DRAFT];

    private final int[] kinds = new int[SLOTS];
    private final long[] los = new long[SLOTS];
    private final long[] his = new long[SLOTS];
    private long safe;
    private int at;
    private final boolean[] reached = new boolean[MOST_INSTRUCTIONS];
    private long exitLeast;
    private long exitMost;

    // The jumps whose goal is still to be followed, each with what was known before it.
    private int branches;
    private final int[] branchAt = new int[MOST_BRANCHES];
    private final long[] branchSafe = new long[MOST_BRANCHES];
    private final int[] branchKinds = new int[SAVED_SLOTS];
    private final long[] branchLos = new long[SAVED_SLOTS];
    private final long[] branchHis = new long[SAVED_SLOTS];

    private int faultPlace;
    private long provedLeast;
    private long provedMost;

    private final int[] packet = new int[MOST_BYTES];
    private int packetLength;
    private final long[] registers = new long[RUN_REGISTERS];
    // The stack's cells first, then two for each key of map 0 and of map 1.
    private final long[] cells = new long[ALL_CELLS];
    private final long[] keyWords = new long[ALL_KEYS];
    private final boolean[] keyTaken = new boolean[ALL_KEYS];
    private int executed;

    public FilterMachine() {
        faultPlace = -1;
        provedLeast = -1;
        provedMost = -1;
    }

    public boolean code(int op, int d, int s, int off, int imm) {
        if (!isNamed(op) || d < 0 || d >= REGISTERS || s < 0 || s > FRAME_SLOT) {
            return false;
        }
        if (op == SHR && (imm < 0 || imm > 31)) {
            return false;
        }
        if (lengths[DRAFT] >= MOST_INSTRUCTIONS) {
            return false;
        }
        int i = DRAFT_START + lengths[DRAFT];
        ops[i] = op;
        targets[i] = d;
        sources[i] = s;
        offsets[i] = off;
        immediates[i] = imm;
        lengths[DRAFT]++;
        return true;
    }

    public int wipe() {
        int had = lengths[DRAFT];
        lengths[DRAFT] = 0;
        return had;
    }

    public int verify(int p) {
        if (p < 0 || p >= PROGRAMS) {
            return BAD;
        }
        int fault = OK;
        at = placeOfSurplusJump();
        if (at >= 0) {
            fault = COMPLEX;
        } else {
            fault = followPaths();
        }
        if (fault == OK) {
            at = placeOfUnreached();
            fault = at >= 0 ? DEAD : OK;
        }
        faultPlace = at;
        if (fault == OK) {
            keepDraft(p);
        }
        return fault;
    }

    public int place() {
        return faultPlace;
    }

    public long least() {
        return provedLeast;
    }

    public long most() {
        return provedMost;
    }

    public boolean feed(int v) {
        if (packetLength >= MOST_BYTES) {
            return false;
        }
        packet[packetLength] = v & 255;
        packetLength++;
        return true;
    }

    public int next() {
        int had = packetLength;
        packetLength = 0;
        return had;
    }

    public long run(int p) {
        if (p < 0 || p >= PROGRAMS) {
            return BAD;
        }
        if (lengths[p] == 0) {
            return NONE;
        }
        // In a run a pointer is a bare index: the verifier has shown that it is never used as anything else.
        registers[1] = 0;
        registers[2] = packetLength;
        registers[FRAME_SLOT] = 0;
        executed = 0;
        int current = 0;
        // Jumps only lead onward, so no instruction has a second turn.
        for (int turn = 0; turn < MOST_INSTRUCTIONS; turn++) {
            if (current < 0 || current >= lengths[p]) {
                break;
            }
            int i = p * MOST_INSTRUCTIONS + current;
            executed++;
            if (ops[i] == EXIT) {
                break;
            }
            boolean jumps = perform(i);
            current += jumps ? offsets[i] + 1 : 1;
        }
        return registers[0];
    }

    public int steps() {
        return executed;
    }

    public long value(int m, int k, int c) {
        if (c < 0 || c >= VALUE_CELLS) {
            return -1;
        }
        int slot = slotOfKey(m, k & GREATEST_WORD);
        if (slot < 0) {
            return -1;
        }
        return cells[STACK_CELLS + slot * VALUE_CELLS + c];
    }

    public int keys(int m) {
        if (m < 0 || m >= MAPS) {
            return -1;
        }
        int count = 0;
        for (int n = 0; n < MOST_KEYS; n++) {
            if (keyTaken[m * MOST_KEYS + n]) {
                count++;
            }
        }
        return count;
    }

    public void forget() {
        for (int slot = 0; slot < ALL_KEYS; slot++) {
            keyTaken[slot] = false;
        }
    }

    private static boolean isNamed(int op) {
        if (op < 0) {
            return false;
        }
        int digit = op % 10;
        switch (op / 10) {
            case ARITHMETIC_IMM:
            case ARITHMETIC_REG:
                return digit <= SHR;
            case JUMP_IMM:
                return digit <= NOT_LESS;
            case JUMP_REG:
                return digit >= EQUAL && digit <= NOT_LESS;
            case MEMORY:
            case MAP:
                return digit <= 2;
            default:
                return op == EXIT;
        }
    }

    private static boolean isJump(int op) {
        int tens = op / 10;
        return tens == JUMP_IMM || tens == JUMP_REG;
    }

    private static int opposite(int relation) {
        switch (relation) {
            case EQUAL:
                return UNEQUAL;
            case UNEQUAL:
                return EQUAL;
            case LESS:
                return NOT_LESS;
            default:
                return LESS;
        }
    }

    // ---- the verifier ----

    private int placeOfSurplusJump() {
        int count = 0;
        for (int n = 0; n < lengths[DRAFT]; n++) {
            int op = ops[DRAFT_START + n];
            boolean conditional = isJump(op) && op != JA;
            if (conditional && count == MOST_BRANCHES) {
                return n;
            }
            if (conditional) {
                count++;
            }
        }
        return -1;
    }

    private int placeOfUnreached() {
        for (int n = 0; n < lengths[DRAFT]; n++) {
            if (!reached[n]) {
                return n;
            }
        }
        return -1;
    }

    private void keepDraft(int p) {
        for (int n = 0; n < lengths[DRAFT]; n++) {
            int from = DRAFT_START + n;
            int to = p * MOST_INSTRUCTIONS + n;
            ops[to] = ops[from];
            targets[to] = targets[from];
            sources[to] = sources[from];
            offsets[to] = offsets[from];
            immediates[to] = immediates[from];
        }
        lengths[p] = lengths[DRAFT];
        provedLeast = exitLeast;
        provedMost = exitMost;
    }

    // Leaves at on the place of the fault that it answers.
    private int followPaths() {
        beginPaths();
        // Ten branches and forty instructions make at most 1024 * 40 turns.
        for (int turn = 0; turn < MOST_TURNS; turn++) {
            if (at >= lengths[DRAFT]) {
                return OUT;
            }
            reached[at] = true;
            int i = DRAFT_START + at;
            int fault = check(i);
            if (fault != OK) {
                return fault;
            }
            if (ops[i] == EXIT) {
                if (branches == 0) {
                    return OK;
                }
                takeUpBranch();
            } else if (!isJump(ops[i])) {
                at++;
            }
        }
        return OK;
    }

    private void beginPaths() {
        for (int slot = 0; slot < SLOTS; slot++) {
            know(slot, NOTHING, 0, 0);
        }
        know(1, PACKET, 0, 0);
        know(2, END, 0, 0);
        know(FRAME_SLOT, FRAME, 0, 0);
        safe = 0;
        at = 0;
        branches = 0;
        for (int n = 0; n < MOST_INSTRUCTIONS; n++) {
            reached[n] = false;
        }
        exitLeast = GREATEST_WORD;
        exitMost = 0;
    }

    private int check(int i) {
        if (namesWhatIsNotThere(i)) {
            return OUT;
        }
        int second = secondSlot(i);
        if (usesUnset(i, second)) {
            return UNSET;
        }
        switch (ops[i] / 10) {
            case ARITHMETIC_IMM:
            case ARITHMETIC_REG:
                return checkArithmetic(ops[i] % 10, targets[i], second);
            case JUMP_IMM:
            case JUMP_REG:
                return checkJump(i, second);
            case MEMORY:
                return ops[i] == LOADB ? checkByte(i) : checkCell(i);
            case MAP:
                return checkMapCall(ops[i]);
            default:
                return checkExit();
        }
    }

    private boolean namesWhatIsNotThere(int i) {
        if (isJump(ops[i])) {
            return offsets[i] < 0;
        }
        return ops[i] / 10 == MAP && (immediates[i] < 0 || immediates[i] >= MAPS);
    }

    // A constant counts as a SCALAR of one word: it is put into a slot of its own, so that both forms are one.
    private int secondSlot(int i) {
        int tens = ops[i] / 10;
        if (tens == ARITHMETIC_REG || tens == JUMP_REG || tens == MEMORY) {
            return sources[i];
        }
        long word = immediates[i] & GREATEST_WORD;
        know(CONSTANT_SLOT, SCALAR, word, word);
        return CONSTANT_SLOT;
    }

    private boolean usesUnset(int i, int second) {
        switch (ops[i]) {
            case JA:
                return false;
            case MOV:
            case MOV + 10:
            case LOAD:
            case LOADB:
                return kinds[second] == NOTHING;
            case LOOKUP:
            case DELETE:
                return kinds[1] == NOTHING;
            case UPDATE:
                return kinds[1] == NOTHING || kinds[2] == NOTHING || kinds[3] == NOTHING;
            case EXIT:
                return kinds[0] == NOTHING;
            default:
                return kinds[targets[i]] == NOTHING || kinds[second] == NOTHING;
        }
    }

    private int checkArithmetic(int operation, int d, int second) {
        if (operation == MOV) {
            copyKnown(d, second);
            return OK;
        }
        if (kinds[second] != SCALAR) {
            return KIND;
        }
        if (kinds[d] == SCALAR) {
            combine(operation, d, second);
            return OK;
        }
        if (kinds[d] == PACKET) {
            return movePacketPointer(operation, d, second);
        }
        if (kinds[d] == FRAME || kinds[d] == VALUE) {
            return moveCellPointer(operation, d, second);
        }
        return KIND;
    }

    private void combine(int operation, int d, int second) {
        long lo = los[d];
        long hi = his[d];
        long lo2 = los[second];
        long hi2 = his[second];
        switch (operation) {
            case ADD:
                knowWords(d, lo + lo2, hi + hi2);
                break;
            case SUB:
                knowWords(d, lo - hi2, hi - lo2);
                break;
            case MUL:
                // A product of two words that a long can't hold comes out below 0, so it is seen to be no word.
                knowWords(d, lo * lo2, hi * hi2);
                break;
            case AND:
                knowWords(d, 0, hi < hi2 ? hi : hi2);
                break;
            case OR:
                long ones = onesCovering(hi | hi2);
                knowWords(d, lo > lo2 ? lo : lo2, ones);
                break;
            default:
                int by = (int) (lo2 & 31);
                boolean exact = lo2 == hi2;
                knowWords(d, exact ? lo >> by : 0, exact ? hi >> by : hi);
                break;
        }
    }

    private static long onesCovering(long word) {
        long ones = 0;
        for (int bits = 0; bits < 32; bits++) {
            if (ones < word) {
                ones = ones * 2 + 1;
            }
        }
        return ones;
    }

    private int movePacketPointer(int operation, int d, int second) {
        long hi = his[d] + his[second];
        if (operation != ADD || hi > MOST_PACKET_REACH) {
            return KIND;
        }
        know(d, PACKET, los[d] + los[second], hi);
        return OK;
    }

    private int moveCellPointer(int operation, int d, int second) {
        long by = los[second];
        if (by != his[second] || by > MOST_CELL_MOVE) {
            return KIND;
        }
        if (operation != ADD && operation != SUB) {
            return KIND;
        }
        long cell = operation == ADD ? los[d] + by : los[d] - by;
        know(d, kinds[d], cell, cell);
        return OK;
    }

    private int checkJump(int i, int second) {
        if (ops[i] == JA) {
            at = goalOfJump(i);
            return OK;
        }
        int relation = ops[i] % 10;
        int d = targets[i];
        if (!isComparable(relation, d, second)) {
            return KIND;
        }
        int otherwise = opposite(relation);
        boolean mayJump = mayHold(relation, d, second);
        boolean mayPass = mayHold(otherwise, d, second);
        // Where only one way is open, every word goes that way and nothing is learnt.
        if (!mayPass) {
            at = goalOfJump(i);
            return OK;
        }
        if (mayJump) {
            saveBranch();
            learn(otherwise, d, second);
        }
        at++;
        return OK;
    }

    // All goals behind the last instruction are one place.
    private int goalOfJump(int i) {
        long goal = at + 1L + offsets[i];
        return goal < lengths[DRAFT] ? (int) goal : lengths[DRAFT];
    }

    private boolean isComparable(int relation, int d, int second) {
        boolean forEquality = relation == EQUAL || relation == UNEQUAL;
        switch (kinds[d]) {
            case SCALAR:
                return kinds[second] == SCALAR;
            case MAYBE:
                return forEquality && kinds[second] == SCALAR && his[second] == 0;
            case PACKET:
                return !forEquality && kinds[second] == END;
            case END:
                return !forEquality && kinds[second] == PACKET;
            default:
                return false;
        }
    }

    private boolean mayHold(int relation, int d, int second) {
        if (kinds[d] != SCALAR) {
            return true;
        }
        switch (relation) {
            case EQUAL:
                return los[d] <= his[second] && los[second] <= his[d];
            case UNEQUAL:
                return los[d] != his[second] || los[second] != his[d];
            case LESS:
                return los[d] < his[second];
            default:
                return his[d] >= los[second];
        }
    }

    private void learn(int relation, int d, int second) {
        if (kinds[d] == SCALAR) {
            if (los[second] == his[second]) {
                cut(relation, d, los[second]);
            }
        } else if (kinds[d] == MAYBE) {
            settleMaybes(relation == EQUAL ? SCALAR : VALUE);
        } else if (kinds[d] == PACKET && relation == LESS) {
            raiseSafe(los[d] + 1);
        } else if (kinds[d] == END && relation == NOT_LESS) {
            raiseSafe(los[second]);
        }
    }

    // Both ways are open here, so n is neither below the interval nor above it.
    private void cut(int relation, int d, long n) {
        switch (relation) {
            case EQUAL:
                los[d] = n;
                his[d] = n;
                break;
            case UNEQUAL:
                los[d] = los[d] == n ? n + 1 : los[d];
                his[d] = his[d] == n ? n - 1 : his[d];
                break;
            case LESS:
                his[d] = n - 1;
                break;
            default:
                los[d] = n;
                break;
        }
    }

    // Each call of a map takes every older MAYBE away, so all that are there come from the same LOOKUP.
    // A MAYBE holds 0 as both ends, which is what SCALAR 0..0 and VALUE 0 hold, too.
    private void settleMaybes(int kind) {
        for (int slot = 0; slot < SLOTS; slot++) {
            if (kinds[slot] == MAYBE) {
                kinds[slot] = kind;
            }
        }
    }

    private void raiseSafe(long bytes) {
        if (safe < bytes) {
            safe = bytes;
        }
    }

    private void saveBranch() {
        // A path meets each of its conditional jumps once, so there is always room.
        if (branches >= MOST_BRANCHES) {
            return;
        }
        branchAt[branches] = at;
        branchSafe[branches] = safe;
        for (int slot = 0; slot < SLOTS; slot++) {
            int to = branches * SLOTS + slot;
            branchKinds[to] = kinds[slot];
            branchLos[to] = los[slot];
            branchHis[to] = his[slot];
        }
        branches++;
    }

    private void takeUpBranch() {
        branches--;
        at = branchAt[branches];
        safe = branchSafe[branches];
        for (int slot = 0; slot < SLOTS; slot++) {
            int from = branches * SLOTS + slot;
            know(slot, branchKinds[from], branchLos[from], branchHis[from]);
        }
        int i = DRAFT_START + at;
        int second = secondSlot(i);
        learn(ops[i] % 10, targets[i], second);
        at = goalOfJump(i);
    }

    private int checkCell(int i) {
        int pointer = ops[i] == STORE ? targets[i] : sources[i];
        if (kinds[pointer] != FRAME && kinds[pointer] != VALUE) {
            return KIND;
        }
        boolean onStack = kinds[pointer] == FRAME;
        long cell = los[pointer] + offsets[i];
        if (isFarOffset(offsets[i]) || cell < 0 || cell >= (onStack ? STACK_CELLS : VALUE_CELLS)) {
            return BOUNDS;
        }
        int slot = STACK_SLOT + (int) cell;
        if (ops[i] == STORE) {
            return onStack ? checkStackStore(slot, sources[i]) : checkValueStore(sources[i]);
        }
        return onStack ? checkStackLoad(targets[i], slot) : checkValueLoad(targets[i]);
    }

    private static boolean isFarOffset(int off) {
        return off < -MOST_OFFSET || off > MOST_OFFSET;
    }

    private int checkStackStore(int slot, int s) {
        copyKnown(slot, s);
        return OK;
    }

    private int checkValueStore(int s) {
        return kinds[s] == SCALAR ? OK : KIND;
    }

    private int checkStackLoad(int d, int slot) {
        if (kinds[slot] == NOTHING) {
            return UNSET;
        }
        copyKnown(d, slot);
        return OK;
    }

    private int checkValueLoad(int d) {
        know(d, SCALAR, 0, GREATEST_WORD);
        return OK;
    }

    private int checkByte(int i) {
        int s = sources[i];
        int off = offsets[i];
        if (kinds[s] != PACKET) {
            return KIND;
        }
        if (isFarOffset(off) || los[s] + off < 0 || his[s] + off >= safe) {
            return BOUNDS;
        }
        know(targets[i], SCALAR, 0, 255);
        return OK;
    }

    private int checkMapCall(int op) {
        if (kinds[1] != SCALAR) {
            return KIND;
        }
        if (op == UPDATE && (kinds[2] != SCALAR || kinds[3] != SCALAR)) {
            return KIND;
        }
        for (int slot = 0; slot < SLOTS; slot++) {
            boolean givenAway = slot >= 1 && slot <= 5;
            if (givenAway || kinds[slot] == VALUE || kinds[slot] == MAYBE) {
                know(slot, NOTHING, 0, 0);
            }
        }
        if (op == LOOKUP) {
            know(0, MAYBE, 0, 0);
        } else {
            know(0, SCALAR, 0, 1);
        }
        return OK;
    }

    private int checkExit() {
        if (kinds[0] != SCALAR) {
            return KIND;
        }
        exitLeast = los[0] < exitLeast ? los[0] : exitLeast;
        exitMost = his[0] > exitMost ? his[0] : exitMost;
        return OK;
    }

    private void know(int slot, int kind, long lo, long hi) {
        kinds[slot] = kind;
        los[slot] = lo;
        his[slot] = hi;
    }

    private void copyKnown(int to, int from) {
        kinds[to] = kinds[from];
        los[to] = los[from];
        his[to] = his[from];
    }

    // For a slot that is SCALAR and stays so.
    private void knowWords(int slot, long lo, long hi) {
        boolean words = lo >= 0 && lo <= GREATEST_WORD && hi >= 0 && hi <= GREATEST_WORD;
        los[slot] = words ? lo : 0;
        his[slot] = words ? hi : GREATEST_WORD;
    }

    // ---- the run ----

    // Answers whether the instruction jumps.
    private boolean perform(int i) {
        int op = ops[i];
        int d = targets[i];
        int tens = op / 10;
        boolean fromRegister = tens == ARITHMETIC_REG || tens == JUMP_REG;
        long second = fromRegister ? registers[sources[i]] : immediates[i] & GREATEST_WORD;
        switch (tens) {
            case ARITHMETIC_IMM:
            case ARITHMETIC_REG:
                registers[d] = result(op % 10, registers[d], second);
                return false;
            case JUMP_IMM:
            case JUMP_REG:
                return op == JA || holds(op % 10, registers[d], second);
            case MEMORY:
                performMemory(i);
                return false;
            default:
                performMapCall(op, immediates[i]);
                return false;
        }
    }

    private static long result(int operation, long first, long second) {
        switch (operation) {
            case MOV:
                return second;
            case ADD:
                return (first + second) & GREATEST_WORD;
            case SUB:
                return (first - second) & GREATEST_WORD;
            case MUL:
                return (first * second) & GREATEST_WORD;
            case AND:
                return first & second;
            case OR:
                return first | second;
            default:
                return first >> (second & 31);
        }
    }

    private static boolean holds(int relation, long first, long second) {
        switch (relation) {
            case EQUAL:
                return first == second;
            case UNEQUAL:
                return first != second;
            case LESS:
                return first < second;
            default:
                return first >= second;
        }
    }

    private void performMemory(int i) {
        int op = ops[i];
        int d = targets[i];
        int s = sources[i];
        // A pointer below the first cell has wrapped around as a word; as an int it is below 0 again.
        int index = (int) registers[op == STORE ? d : s] + offsets[i];
        // The verifier has shown that each index is inside; it is looked at all the same.
        if (index < 0 || index >= (op == LOADB ? packetLength : ALL_CELLS)) {
            return;
        }
        if (op == LOADB) {
            registers[d] = packet[index];
        } else if (op == LOAD) {
            registers[d] = cells[index];
        } else {
            cells[index] = registers[s];
        }
    }

    private void performMapCall(int op, int map) {
        int slot = slotOfKey(map, registers[1]);
        if (op == LOOKUP) {
            // The stack's cells come first, so no pointer to a value is 0.
            registers[0] = slot < 0 ? 0 : STACK_CELLS + slot * VALUE_CELLS;
            return;
        }
        if (op == DELETE) {
            registers[0] = slot < 0 ? 0 : 1;
            if (slot >= 0) {
                keyTaken[slot] = false;
            }
            return;
        }
        int room = slot < 0 ? freeSlot(map) : slot;
        registers[0] = room < 0 ? 1 : 0;
        if (room >= 0) {
            putKey(room, registers[1], registers[2], registers[3]);
        }
    }

    private void putKey(int slot, long key, long first, long second) {
        keyTaken[slot] = true;
        keyWords[slot] = key;
        cells[STACK_CELLS + slot * VALUE_CELLS] = first;
        cells[STACK_CELLS + slot * VALUE_CELLS + 1] = second;
    }

    // -1 if the map has no such key, or there is no such map.
    private int slotOfKey(int map, long key) {
        if (map < 0 || map >= MAPS) {
            return -1;
        }
        for (int n = 0; n < MOST_KEYS; n++) {
            int slot = map * MOST_KEYS + n;
            if (keyTaken[slot] && keyWords[slot] == key) {
                return slot;
            }
        }
        return -1;
    }

    private int freeSlot(int map) {
        if (map < 0 || map >= MAPS) {
            return -1;
        }
        for (int n = 0; n < MOST_KEYS; n++) {
            int slot = map * MOST_KEYS + n;
            if (!keyTaken[slot]) {
                return slot;
            }
        }
        return -1;
    }
}
