public final class Promise14Forget extends Checks {
    public static void main(String[] args) {
        x.forget();
        due("empty before", x.keys(0), 0);
        for (int m = 0; m < 2; m++) {
            answers("put", 0, 1, 0, mov(1, 5), mov(2, 6), mov(3, 7), update(m), exit());
        }
        packet(1, 2);
        x.forget();
        due("keys(0)", x.keys(0), 0);
        due("keys(1)", x.keys(1), 0);
        due("value(0)", x.value(0, 5, 0), -1);
        due("value(1)", x.value(1, 5, 0), -1);
        due("the draft stays", x.verify(0), OK);
        due("the program stays", x.run(0), 0);
        due("the packet stays", x.next(), 2);
        due("keys(1)", x.keys(1), 1);
        answers("four more find room", 0, 4, 0,
            mov(7, 0), mov(1, 1), mov(2, 0), mov(3, 0), update(0), reg(ADD, 7, 0),
            mov(1, 2), mov(2, 0), mov(3, 0), update(0), reg(ADD, 7, 0),
            mov(1, 3), mov(2, 0), mov(3, 0), update(0), reg(ADD, 7, 0),
            mov(1, 4), mov(2, 0), mov(3, 0), update(0), reg(ADD, 7, 0), movReg(0, 7), exit());
        due("keys(0)", x.keys(0), 4);
        finish();
    }
}
