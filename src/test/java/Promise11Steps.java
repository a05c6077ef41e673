public final class Promise11Steps extends Checks {
    public static void main(String[] args) {
        due("before all", x.steps(), 0);
        x.run(0);
        due("no program", x.steps(), 0);
        passes("skips two", 1, 1, mov(0, 1), jump(JEQ, 0, 1, 0), exit());
        due("verify does not count", x.steps(), 0);
        x.run(0);
        due("three with EXIT", x.steps(), 3);
        draft(mov(0, 999), jumpReg(JGE, 1, 2, 2), loadByte(0, 1, 0), imm(ADD, 0, 1), exit());
        due("verify(1)", x.verify(1), OK);
        x.run(1);
        due("the jump's way", x.steps(), 3);
        x.feed(0);
        due("run", x.run(1), 1);
        due("the other way", x.steps(), 5);
        due("BAD", x.run(2), BAD);
        due("BAD leaves it", x.steps(), 5);
        x.run(0);
        due("program 0 again", x.steps(), 3);
        fresh();
        draft(exit(), exit());
        due("refused", x.verify(0), UNSET);
        due("NONE", x.run(0), NONE);
        due("still none", x.steps(), 0);
        finish();
    }
}
