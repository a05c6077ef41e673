import java.util.ArrayList;
import java.util.List;
import java.util.Map;
import java.util.TreeMap;

/**
 * The document once more, written as differently from the program as can be: recursion, objects, exceptions.
 * The run looks at every kind and every bound itself, so it also tells whether what passes can go wrong.
 */
final class Model {
    static final long TOP = 4294967295L;

    record Known(String kind, long lo, long hi) {
        static final Known NOTHING = new Known("NOTHING", 0, 0);

        static Known scalar(long lo, long hi) {
            boolean words = 0 <= lo && lo <= TOP && 0 <= hi && hi <= TOP;
            return words ? new Known("SCALAR", lo, hi) : new Known("SCALAR", 0, TOP);
        }

        boolean is(String name) {
            return kind.equals(name);
        }

        boolean single() {
            return is("SCALAR") && lo == hi;
        }
    }

    static final class Fault extends RuntimeException {
        private static final long serialVersionUID = 1;
        final int fault;
        final int place;

        Fault(int fault, int place) {
            super(null, null, false, false);
            this.fault = fault;
            this.place = place;
        }
    }

    private static final class State {
        final Known[] reg = new Known[9];
        final Known[] stack = new Known[6];
        long safe = 0;
        int lookups = 0;

        State() {
            java.util.Arrays.fill(reg, Known.NOTHING);
            java.util.Arrays.fill(stack, Known.NOTHING);
            reg[1] = new Known("PACKET", 0, 0);
            reg[2] = new Known("END", 0, 0);
            reg[8] = new Known("FRAME", 0, 0);
        }

        State(State o) {
            System.arraycopy(o.reg, 0, reg, 0, 9);
            System.arraycopy(o.stack, 0, stack, 0, 6);
            safe = o.safe;
            lookups = o.lookups;
        }

        void replaceAll(Known old, Known by) {
            for (Known[] all : List.of(reg, stack)) {
                for (int n = 0; n < all.length; n++) {
                    if (all[n].equals(old)) {
                        all[n] = by;
                    }
                }
            }
        }
    }

    // ---- verify ----

    private int[][] prog;
    private boolean[] seen;
    int fault;
    int place = -1;
    long least = -1;
    long most = -1;
    private long exitLeast;
    private long exitMost;
    final int[][][] programs = new int[2][][];

    int verify(int p, List<int[]> draft) {
        prog = draft.toArray(new int[0][]);
        seen = new boolean[prog.length];
        exitLeast = Long.MAX_VALUE;
        exitMost = Long.MIN_VALUE;
        fault = 0;
        place = -1;
        try {
            List<Integer> conditional = new ArrayList<>();
            for (int n = 0; n < prog.length; n++) {
                if (prog[n][0] >= 21 && prog[n][0] <= 34) {
                    conditional.add(n);
                }
            }
            if (conditional.size() > 10) {
                throw new Fault(5, conditional.get(10));
            }
            walk(new State(), 0);
            for (int n = 0; n < prog.length; n++) {
                if (!seen[n]) {
                    throw new Fault(6, n);
                }
            }
            least = exitLeast;
            most = exitMost;
            programs[p] = prog;
        } catch (Fault f) {
            fault = f.fault;
            place = f.place;
        }
        return fault;
    }

    private static void need(boolean good, int fault, int pc) {
        if (!good) {
            throw new Fault(fault, pc);
        }
    }

    private void walk(State st, int pc) {
        need(pc < prog.length, 1, prog.length);
        seen[pc] = true;
        int op = prog[pc][0], d = prog[pc][1], s = prog[pc][2], off = prog[pc][3], imm = prog[pc][4];
        boolean jump = op >= 20 && op <= 34;
        need(!jump || off >= 0, 1, pc);
        need(op < 50 || op > 52 || imm == 0 || imm == 1, 1, pc);
        for (int used : uses(op, d, s)) {
            need(!st.reg[used].is("NOTHING"), 2, pc);
        }
        Known constant = Known.scalar(Integer.toUnsignedLong(imm), Integer.toUnsignedLong(imm));
        if (op <= 6) {
            st.reg[d] = arithmetic(op, st.reg[d], constant, pc);
        } else if (op <= 16) {
            st.reg[d] = arithmetic(op - 10, st.reg[d], st.reg[s], pc);
        } else if (op == 20) {
            walk(st, target(pc, off));
            return;
        } else if (op <= 24) {
            branch(st, pc, op - 20, d, constant, off);
            return;
        } else if (op <= 34) {
            branch(st, pc, op - 30, d, st.reg[s], off);
            return;
        } else if (op == 40) {
            st.reg[d] = loadCell(st, st.reg[s], off, pc);
        } else if (op == 41) {
            storeCell(st, st.reg[d], st.reg[s], off, pc);
        } else if (op == 42) {
            Known p = st.reg[s];
            need(p.is("PACKET"), 3, pc);
            need(off >= -100 && off <= 100 && p.lo + off >= 0 && p.hi + off < st.safe, 4, pc);
            st.reg[d] = Known.scalar(0, 255);
        } else if (op <= 52) {
            call(st, op, pc);
        } else {
            need(st.reg[0].is("SCALAR"), 3, pc);
            exitLeast = Math.min(exitLeast, st.reg[0].lo);
            exitMost = Math.max(exitMost, st.reg[0].hi);
            return;
        }
        walk(st, pc + 1);
    }

    private int target(int pc, int off) {
        return (int) Math.min(prog.length, (long) pc + off + 1);
    }

    private static int[] uses(int op, int d, int s) {
        if (op == 0 || op == 20) {
            return new int[] {};
        }
        if (op <= 6 || op >= 21 && op <= 24) {
            return new int[] {d};
        }
        if (op == 10 || op == 40 || op == 42) {
            return new int[] {s};
        }
        if (op <= 41) {
            return new int[] {d, s};
        }
        if (op == 51) {
            return new int[] {1, 2, 3};
        }
        return new int[] {op == 60 ? 0 : 1};
    }

    private static Known arithmetic(int op, Known a, Known b, int pc) {
        if (op == 0) {
            return b;
        }
        need(b.is("SCALAR"), 3, pc);
        if (a.is("PACKET") && op == 1 && a.hi + b.hi <= 255) {
            return new Known("PACKET", a.lo + b.lo, a.hi + b.hi);
        }
        if ((a.is("FRAME") || a.is("VALUE")) && op <= 2 && b.single() && b.lo <= 100) {
            long cell = op == 1 ? a.lo + b.lo : a.lo - b.lo;
            return new Known(a.kind, cell, cell);
        }
        need(a.is("SCALAR"), 3, pc);
        switch (op) {
            case 1:
                return Known.scalar(a.lo + b.lo, a.hi + b.hi);
            case 2:
                return Known.scalar(a.lo - b.hi, a.hi - b.lo);
            case 3:
                return Known.scalar(product(a.lo, b.lo), product(a.hi, b.hi));
            case 4:
                return Known.scalar(0, Math.min(a.hi, b.hi));
            case 5:
                int bits = 0;
                while ((1L << bits) - 1 < Math.max(a.hi, b.hi)) {
                    bits++;
                }
                return Known.scalar(Math.max(a.lo, b.lo), (1L << bits) - 1);
            default:
                int by = (int) (b.lo % 32);
                return b.single() ? Known.scalar(a.lo / (1L << by), a.hi / (1L << by)) : Known.scalar(0, a.hi);
        }
    }

    private static long product(long a, long b) {
        java.math.BigInteger exact = java.math.BigInteger.valueOf(a).multiply(java.math.BigInteger.valueOf(b));
        return exact.bitLength() > 32 ? -1 : exact.longValueExact();
    }

    /** Relations: 1 =, 2 not =, 3 less, 4 not less. The first of the two ways is the next instruction's. */
    private void branch(State st, int pc, int relation, int d, Known b, int off) {
        Known a = st.reg[d];
        int otherwise = relation % 2 == 1 ? relation + 1 : relation - 1;
        int[] relations = {otherwise, relation};
        int[] goals = {pc + 1, target(pc, off)};
        boolean equality = relation <= 2;
        boolean scalars = a.is("SCALAR") && b.is("SCALAR");
        boolean maybe = a.kind.startsWith("MAYBE") && b.single() && b.lo == 0 && equality;
        boolean toEnd = a.is("PACKET") && b.is("END") && !equality;
        boolean fromEnd = a.is("END") && b.is("PACKET") && !equality;
        need(scalars || maybe || toEnd || fromEnd, 3, pc);
        for (int way = 0; way < 2; way++) {
            int rel = relations[way];
            State next = new State(st);
            if (scalars) {
                if (!somePair(rel, a, b)) {
                    continue;
                }
                if (b.single()) {
                    next.reg[d] = cut(rel, a, b.lo);
                }
            } else if (maybe) {
                next.replaceAll(a, rel == 1 ? Known.scalar(0, 0) : new Known("VALUE", 0, 0));
            } else if (toEnd && rel == 3) {
                next.safe = Math.max(next.safe, a.lo + 1);
            } else if (fromEnd && rel == 4) {
                next.safe = Math.max(next.safe, b.lo);
            }
            walk(next, goals[way]);
        }
    }

    private static boolean somePair(int rel, Known a, Known b) {
        switch (rel) {
            case 1:
                return Math.max(a.lo, b.lo) <= Math.min(a.hi, b.hi);
            case 2:
                return !(a.single() && b.single() && a.lo == b.lo);
            case 3:
                return a.lo < b.hi;
            default:
                return a.hi >= b.lo;
        }
    }

    private static Known cut(int rel, Known a, long n) {
        switch (rel) {
            case 1:
                return Known.scalar(n, n);
            case 2:
                return a.lo == n ? Known.scalar(n + 1, a.hi) : a.hi == n ? Known.scalar(a.lo, n - 1) : a;
            case 3:
                return Known.scalar(a.lo, Math.min(a.hi, n - 1));
            default:
                return Known.scalar(Math.max(a.lo, n), a.hi);
        }
    }

    private static int cellOf(Known pointer, int off, int pc) {
        need(pointer.is("FRAME") || pointer.is("VALUE"), 3, pc);
        long cell = pointer.lo + off;
        long cells = pointer.is("FRAME") ? 6 : 2;
        need(off >= -100 && off <= 100 && cell >= 0 && cell < cells, 4, pc);
        return (int) cell;
    }

    private static Known loadCell(State st, Known pointer, int off, int pc) {
        int cell = cellOf(pointer, off, pc);
        if (pointer.is("VALUE")) {
            return Known.scalar(0, TOP);
        }
        need(!st.stack[cell].is("NOTHING"), 2, pc);
        return st.stack[cell];
    }

    private static void storeCell(State st, Known pointer, Known what, int off, int pc) {
        int cell = cellOf(pointer, off, pc);
        if (pointer.is("FRAME")) {
            st.stack[cell] = what;
        } else {
            need(what.is("SCALAR"), 3, pc);
        }
    }

    private static void call(State st, int op, int pc) {
        for (int r = 1; r <= (op == 51 ? 3 : 1); r++) {
            need(st.reg[r].is("SCALAR"), 3, pc);
        }
        for (int r = 0; r < 8; r++) {
            if (r >= 1 && r <= 5 || goesStale(st.reg[r])) {
                st.reg[r] = Known.NOTHING;
            }
        }
        for (int c = 0; c < 6; c++) {
            if (goesStale(st.stack[c])) {
                st.stack[c] = Known.NOTHING;
            }
        }
        if (op == 50) {
            st.lookups++;
            st.reg[0] = new Known("MAYBE " + st.lookups, 0, 0);
        } else {
            st.reg[0] = Known.scalar(0, 1);
        }
    }

    private static boolean goesStale(Known k) {
        return k.is("VALUE") || k.kind.startsWith("MAYBE");
    }

    // ---- run ----

    record BytePointer(int index) { }

    record EndPointer() { }

    record CellPointer(Object[] cells, int index) { }

    final List<Integer> packet = new ArrayList<>();
    final List<Map<Long, Object[]>> maps = List.of(new TreeMap<>(), new TreeMap<>());
    int steps = 0;

    long run(int p) {
        int[][] code = programs[p];
        Object[] reg = new Object[9];
        Object[] stack = new Object[6];
        reg[1] = new BytePointer(0);
        reg[2] = new EndPointer();
        reg[8] = new CellPointer(stack, 0);
        steps = 0;
        int pc = 0;
        while (true) {
            int op = code[pc][0], d = code[pc][1], s = code[pc][2], off = code[pc][3], imm = code[pc][4];
            steps++;
            pc++;
            Object second = op % 20 >= 10 || op == 31 ? reg[s] : (Object) Integer.toUnsignedLong(imm);
            if (op <= 16) {
                reg[d] = op % 10 == 0 ? second : compute(op % 10, reg[d], (Long) second);
            } else if (op == 20) {
                pc += off;
            } else if (op <= 34) {
                pc += compare(op % 10, reg[d], second) ? off : 0;
            } else if (op == 40) {
                CellPointer from = (CellPointer) reg[s];
                reg[d] = java.util.Objects.requireNonNull(from.cells[from.index + off]);
            } else if (op == 41) {
                CellPointer to = (CellPointer) reg[d];
                to.cells[to.index + off] = java.util.Objects.requireNonNull(reg[s]);
            } else if (op == 42) {
                reg[d] = (long) packet.get(((BytePointer) reg[s]).index + off);
            } else if (op <= 52) {
                reg[0] = callMap(op, maps.get(imm), reg);
            } else {
                return (Long) reg[0];
            }
        }
    }

    private static Object compute(int op, Object first, long b) {
        if (first instanceof BytePointer p) {
            return new BytePointer(p.index + (int) b);
        }
        if (first instanceof CellPointer p) {
            return new CellPointer(p.cells, op == 1 ? p.index + (int) b : p.index - (int) b);
        }
        int a = (int) (long) (Long) first;
        int c = (int) b;
        int[] results = {0, a + c, a - c, a * c, a & c, a | c, a >>> (c & 31)};
        return Integer.toUnsignedLong(results[op]);
    }

    private boolean compare(int relation, Object a, Object b) {
        boolean pointerToKey = a instanceof CellPointer;
        if (pointerToKey) {
            return relation == 2;
        }
        long x = place(a);
        long y = place(b);
        boolean[] holds = {false, x == y, x != y, x < y, x >= y};
        return holds[relation];
    }

    private long place(Object a) {
        if (a instanceof EndPointer) {
            return packet.size();
        }
        return a instanceof BytePointer p ? p.index : (Long) a;
    }

    private static Object callMap(int op, Map<Long, Object[]> map, Object[] reg) {
        Long key = (Long) reg[1];
        if (op == 50) {
            return map.containsKey(key) ? new CellPointer(map.get(key), 0) : (Object) 0L;
        }
        if (op == 52) {
            return map.remove(key) != null ? 1L : 0L;
        }
        if (!map.containsKey(key) && map.size() == 4) {
            return 1L;
        }
        map.put(key, new Object[] {(Long) reg[2], (Long) reg[3]});
        return 0L;
    }
}
