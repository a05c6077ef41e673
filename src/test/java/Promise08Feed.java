public final class Promise08Feed extends Checks {
    private static final int[][] FIRST_BYTE = rows(mov(0, 999), imm(ADD, 1, 0), jumpReg(JGE, 1, 2, 1), loadByte(0, 1, 0), exit());

    public static void main(String[] args) {
        passes("first byte", 0, 999, FIRST_BYTE);
        lowBits(0, 0);
        lowBits(255, 255);
        lowBits(256, 0);
        lowBits(-1, 255);
        lowBits(300, 44);
        lowBits(Integer.MIN_VALUE, 0);
        lowBits(Integer.MAX_VALUE, 255);
        twentyFour();
        finish();
    }

    private static void lowBits(int v, int want) {
        x.next();
        due("feed " + v, x.feed(v), true);
        due("byte of " + v, x.run(0), want);
    }

    private static void twentyFour() {
        x.next();
        for (int n = 0; n < 24; n++) {
            due("byte " + n, x.feed(100 + n), true);
        }
        due("byte 24", x.feed(1), false);
        due("byte 24 again", x.feed(1), false);
        answers("the last of 24", 0, 999, 123,
            mov(0, 999), movReg(3, 1), imm(ADD, 3, 24), jumpReg(JLT, 2, 3, 1), loadByte(0, 3, -1), exit());
        answers("there is no 25th", 0, 999, 999,
            mov(0, 999), movReg(3, 1), imm(ADD, 3, 24), jumpReg(JGE, 3, 2, 1), loadByte(0, 3, 0), exit());
        due("next", x.next(), 24);
        due("room again", x.feed(1), true);
    }
}
