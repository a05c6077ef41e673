public final class Promise09Next extends Checks {
    public static void main(String[] args) {
        due("empty", x.next(), 0);
        packet(5, 6, 7);
        due("three", x.next(), 3);
        due("emptied", x.next(), 0);
        passes("first byte", 0, 255, mov(0, 77), jumpReg(JGE, 1, 2, 1), loadByte(0, 1, 0), exit());
        packet(5, 6);
        due("run", x.run(0), 5);
        due("a run leaves the packet", x.run(0), 5);
        due("next", x.next(), 2);
        due("run without a packet", x.run(0), 77);
        x.feed(9);
        due("run with the new one", x.run(0), 9);
        due("next", x.next(), 1);
        finish();
    }
}
