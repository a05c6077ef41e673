public final class Promise13Keys extends Checks {
    public static void main(String[] args) {
        due("m 2", x.keys(2), -1);
        due("m -1", x.keys(-1), -1);
        due("far m", x.keys(Integer.MIN_VALUE), -1);
        due("far m", x.keys(Integer.MAX_VALUE), -1);
        for (int k = 0; k < 4; k++) {
            put(0, k, 0);
            due("keys", x.keys(0), k + 1);
        }
        put(0, 4, 1);
        due("a fifth is not taken", x.keys(0), 4);
        due("a fifth has no value", x.value(0, 4, 0), -1);
        put(0, 2, 0);
        due("a known key is taken", x.keys(0), 4);
        due("map 1", x.keys(1), 0);
        put(1, 4, 0);
        due("map 1", x.keys(1), 1);
        take(0, 9, 0);
        due("no such key", x.keys(0), 4);
        take(0, 1, 1);
        due("one less", x.keys(0), 3);
        put(0, 4, 0);
        due("the room is used", x.keys(0), 4);
        for (int k = 0; k < 5; k++) {
            due("value of " + k, x.value(0, k, 1), k == 1 ? -1 : k + 10);
        }
        fresh();
        put(0, 6, 0);
        put(0, 6, 0);
        due("the only key put twice", x.keys(0), 1);
        take(0, 6, 1);
        due("the only key taken away", x.keys(0), 0);
        take(0, 6, 0);
        finish();
    }

    private static void put(int m, int k, int answer) {
        answers("put " + k, 0, 1, answer, mov(1, k), mov(2, k), mov(3, k + 10), update(m), exit());
    }

    private static void take(int m, int k, int answer) {
        answers("take " + k, 0, 1, answer, mov(1, k), delete(m), exit());
    }
}
