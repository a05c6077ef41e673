import java.util.Arrays;

/** What the tests share: an object under test, names for the instructions, and the count of wrong answers. */
class Checks {
    static final int OK = FilterMachine.OK, OUT = FilterMachine.OUT, UNSET = FilterMachine.UNSET;
    static final int KIND = FilterMachine.KIND, BOUNDS = FilterMachine.BOUNDS, COMPLEX = FilterMachine.COMPLEX;
    static final int DEAD = FilterMachine.DEAD, BAD = FilterMachine.BAD, NONE = FilterMachine.NONE;

    static final int ADD = 1, SUB = 2, MUL = 3, AND = 4, OR = 5, SHR = 6;
    static final int JEQ = 21, JNE = 22, JLT = 23, JGE = 24;
    static final long TOP = 4294967295L;
    static final int FRAME = 8;
    /** Fills what an instruction ignores, so that a test notices if it is not ignored. */
    static final int ANY = 7;

    static FilterMachine x = new FilterMachine();
    private static int wrong = 0;
    private static int asked = 0;
    private static int askedOfThisObject = 0;
    private static String sentence = "";
    private static int askedOfThisSentence = 1;

    /** The document promises nothing behind an object's 512th call, so a test takes a new one before that. */
    static void fresh() {
        x = new FilterMachine();
        askedOfThisObject = 0;
    }

    /** What is asked from here on holds this sentence of the document; a sentence of which nothing is asked is wrong. */
    static void sentence(String words) {
        endSentence();
        sentence = words;
        askedOfThisSentence = 0;
        fresh();
    }

    private static void endSentence() {
        if (askedOfThisSentence == 0) {
            wrong++;
            System.out.println("[" + sentence + "] nothing was asked");
        }
    }

    /** One call of the object and the answer that is due. */
    static void due(String what, long got, long want) {
        askedOfThisObject++;
        if (askedOfThisObject > 450) {
            throw new IllegalStateException("too many calls of one object; use fresh()");
        }
        same(what, got, want);
    }

    /** Something that is asked of no object. */
    static void same(String what, long got, long want) {
        asked++;
        askedOfThisSentence++;
        if (got != want) {
            wrong++;
            System.out.println((sentence.isEmpty() ? "" : "[" + sentence + "] ") + what + " answered " + got + ", due is " + want);
        }
    }

    static void holds(String what, boolean good) {
        same(what, good ? 1 : 0, 1);
    }

    static void due(String what, boolean got, boolean want) {
        due(what, got ? 1 : 0, want ? 1 : 0);
    }

    static void finish() {
        endSentence();
        System.out.println(asked + " answers, " + wrong + " not as due");
        if (wrong != 0 || asked == 0) {
            System.exit(1);
        }
    }

    static int[] mov(int d, int imm) {
        return new int[] {0, d, ANY, -5, imm};
    }

    static int[] movReg(int d, int s) {
        return new int[] {10, d, s, -5, -5};
    }

    static int[] imm(int operation, int d, int imm) {
        return new int[] {operation, d, ANY, -5, imm};
    }

    static int[] reg(int operation, int d, int s) {
        return new int[] {operation + 10, d, s, -5, -5};
    }

    static int[] ja(int off) {
        return new int[] {20, ANY, ANY, off, -5};
    }

    static int[] jump(int op, int d, int imm, int off) {
        return new int[] {op, d, ANY, off, imm};
    }

    static int[] jumpReg(int op, int d, int s, int off) {
        return new int[] {op + 10, d, s, off, -5};
    }

    static int[] load(int d, int s, int off) {
        return new int[] {40, d, s, off, -5};
    }

    static int[] store(int d, int s, int off) {
        return new int[] {41, d, s, off, -5};
    }

    static int[] loadByte(int d, int s, int off) {
        return new int[] {42, d, s, off, -5};
    }

    static int[] lookup(int map) {
        return new int[] {50, ANY, ANY, -5, map};
    }

    static int[] update(int map) {
        return new int[] {51, ANY, ANY, -5, map};
    }

    static int[] delete(int map) {
        return new int[] {52, ANY, ANY, -5, map};
    }

    static int[] exit() {
        return new int[] {60, ANY, ANY, -5, -5};
    }

    static int[][] join(int[][] first, int[]... rest) {
        int[][] all = Arrays.copyOf(first, first.length + rest.length);
        System.arraycopy(rest, 0, all, first.length, rest.length);
        return all;
    }

    static int[][] rows(int[]... rows) {
        return rows;
    }

    static void draft(int[]... rows) {
        x.wipe();
        for (int[] row : rows) {
            due("code" + Arrays.toString(row), x.code(row[0], row[1], row[2], row[3], row[4]), true);
        }
    }

    /** The draft must be refused: with this fault, at this place. */
    static void refused(String what, int fault, int place, int[]... rows) {
        draft(rows);
        due(what + ": verify", x.verify(0), fault);
        due(what + ": place", x.place(), place);
    }

    /** The draft must pass as program 0, with these ends of its answer. */
    static void passes(String what, long least, long most, int[]... rows) {
        draft(rows);
        due(what + ": verify", x.verify(0), OK);
        due(what + ": place", x.place(), -1);
        due(what + ": least", x.least(), least);
        due(what + ": most", x.most(), most);
    }

    /** The draft must pass as program 0, with these ends of its answer, and then answer this. */
    static void answers(String what, long least, long most, long answer, int[]... rows) {
        passes(what, least, most, rows);
        due(what + ": run", x.run(0), answer);
    }

    static void packet(int... bytes) {
        x.next();
        for (int b : bytes) {
            x.feed(b);
        }
    }
}
