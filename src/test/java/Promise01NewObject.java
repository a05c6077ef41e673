public final class Promise01NewObject extends Checks {
    public static void main(String[] args) {
        due("place", x.place(), -1);
        due("least", x.least(), -1);
        due("most", x.most(), -1);
        due("steps", x.steps(), 0);
        due("run(0)", x.run(0), NONE);
        due("run(1)", x.run(1), NONE);
        due("steps after runs without a program", x.steps(), 0);
        due("keys(0)", x.keys(0), 0);
        due("keys(1)", x.keys(1), 0);
        due("value(0, 0, 0)", x.value(0, 0, 0), -1);
        due("value(1, 0, 1)", x.value(1, 0, 1), -1);
        due("next", x.next(), 0);
        due("wipe", x.wipe(), 0);
        twoObjectsShareNothing();
        constants();
        finish();
    }

    private static void twoObjectsShareNothing() {
        answers("fill the first", 0, 1, 0, mov(1, 4), mov(2, 5), mov(3, 6), update(1), exit());
        x.feed(1);
        FilterMachine other = new FilterMachine();
        due("other run", other.run(0), NONE);
        due("other keys", other.keys(1), 0);
        due("other next", other.next(), 0);
        due("other wipe", other.wipe(), 0);
        due("other place", other.place(), -1);
        due("other least", other.least(), -1);
        due("first keys", x.keys(1), 1);
    }

    private static void constants() {
        due("OK", OK, 0);
        due("OUT", OUT, 1);
        due("UNSET", UNSET, 2);
        due("KIND", KIND, 3);
        due("BOUNDS", BOUNDS, 4);
        due("COMPLEX", COMPLEX, 5);
        due("DEAD", DEAD, 6);
        due("BAD", BAD, -1);
        due("NONE", NONE, -2);
    }
}
