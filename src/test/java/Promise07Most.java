public final class Promise07Most extends Checks {
    public static void main(String[] args) {
        due("before all", x.most(), -1);
        due("OUT", x.verify(0), OUT);
        due("no OK yet", x.most(), -1);
        passes("a whole word", TOP, TOP, mov(0, -1), exit());
        refused("a fault behind an EXIT of another path", UNSET, 5,
            mov(1, 0), delete(0), jump(JEQ, 0, 0, 1), exit(), movReg(6, 0), movReg(0, 5), exit());
        due("a fault leaves it", x.most(), TOP);
        due("a fault leaves least", x.least(), TOP);
        draft(mov(0, 3), exit());
        due("verify(1)", x.verify(1), OK);
        due("the latest OK, whatever its number", x.most(), 3);
        x.run(0);
        due("run leaves it", x.most(), 3);
        finish();
    }
}
