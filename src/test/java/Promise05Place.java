public final class Promise05Place extends Checks {
    public static void main(String[] args) {
        due("before all", x.place(), -1);
        due("BAD", x.verify(2), BAD);
        due("BAD is none", x.place(), -1);
        refused("nothing in register 0", UNSET, 1, mov(3, 1), exit());
        due("BAD", x.verify(-1), BAD);
        due("place is as before BAD", x.place(), 1);
        x.wipe();
        due("wipe leaves it", x.place(), 1);
        passes("good", 1, 1, mov(0, 1), exit());
        due("BAD", x.verify(Integer.MIN_VALUE), BAD);
        due("OK", x.place(), -1);
        refused("behind the last", OUT, 2, mov(0, 1), mov(0, 2));
        refused("dead", DEAD, 2, mov(0, 1), ja(1), exit(), mov(0, 2), exit());
        finish();
    }
}
