public final class Promise06Least extends Checks {
    public static void main(String[] args) {
        due("before all", x.least(), -1);
        refused("a fault first", KIND, 1, mov(3, 1), store(3, 3, 0), exit());
        due("no OK yet", x.least(), -1);
        x.wipe();
        passes("one path", 9, 9, mov(0, 9), exit());
        refused("dead", DEAD, 2, mov(0, 1), exit(), exit());
        due("DEAD leaves it", x.least(), 9);
        due("BAD leaves it", x.verify(7), BAD);
        due("least", x.least(), 9);
        passes("the lesser end on the first path", 2, 50,
            mov(1, 0), delete(0), movReg(6, 0), mov(0, 2), jump(JEQ, 6, 0, 1), exit(), mov(0, 50), exit());
        passes("the lesser end on the second path", 2, 50,
            mov(1, 0), delete(0), movReg(6, 0), mov(0, 50), jump(JEQ, 6, 0, 1), exit(), mov(0, 2), exit());
        finish();
    }
}
