public final class Promise03Wipe extends Checks {
    public static void main(String[] args) {
        due("wipe of nothing", x.wipe(), 0);
        draft(mov(0, 3), exit());
        due("verify", x.verify(1), OK);
        due("wipe", x.wipe(), 2);
        due("wipe again", x.wipe(), 0);
        due("the program stays", x.run(1), 3);
        due("least stays", x.least(), 3);
        due("an empty draft is OUT", x.verify(1), OUT);
        due("at 0", x.place(), 0);
        due("the program still stays", x.run(1), 3);
        x.code(9, 0, 0, 0, 0);
        due("a refused instruction is not counted", x.wipe(), 0);
        draft(mov(0, 4), mov(0, 5), exit());
        due("the old ones are gone", x.verify(0), OK);
        due("run", x.run(0), 5);
        due("verify leaves the draft", x.wipe(), 3);
        finish();
    }
}
