public final class Promise12Value extends Checks {
    public static void main(String[] args) {
        answers("put", 0, 1, 0, mov(1, -1), mov(2, -2), mov(3, 7), update(1), exit());
        due("cell 0", x.value(1, -1, 0), 4294967294L);
        due("cell 1", x.value(1, -1, 1), 7);
        due("other map", x.value(0, -1, 0), -1);
        due("other key", x.value(1, 0, 0), -1);
        due("c 2", x.value(1, -1, 2), -1);
        due("c -1", x.value(1, -1, -1), -1);
        due("m 2", x.value(2, -1, 0), -1);
        due("m -1", x.value(-1, -1, 0), -1);
        due("far m", x.value(Integer.MAX_VALUE, -1, 0), -1);
        due("far m", x.value(Integer.MIN_VALUE, -1, 0), -1);
        due("far c", x.value(1, -1, Integer.MAX_VALUE), -1);
        due("far c", x.value(1, -1, Integer.MIN_VALUE), -1);
        answers("put anew", 0, 1, 0, mov(1, -1), mov(2, 0), mov(3, 1), update(1), exit());
        due("cell 0", x.value(1, -1, 0), 0);
        due("cell 1", x.value(1, -1, 1), 1);
        answers("put into the other map", 0, 1, 0, mov(1, 0), mov(2, 8), mov(3, 9), update(0), exit());
        due("cell 0", x.value(0, 0, 0), 8);
        due("cell 1", x.value(0, 0, 1), 9);
        due("not in map 1", x.value(1, 0, 0), -1);
        answers("take away", 0, 1, 1, mov(1, -1), delete(1), exit());
        due("gone", x.value(1, -1, 0), -1);
        due("the other stays", x.value(0, 0, 0), 8);
        finish();
    }
}
