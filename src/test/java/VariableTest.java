/** Promise 9. */
public final class VariableTest {
    public static void main(String[] args) {
        everyVariable();
        outsideIsZero();
        onlyRunsChangeThem();
        Due.end();
    }

    private static void everyVariable() {
        SelfModArrayComp x = Due.program("SET 0 1; SET 1 2; SET 2 3; SET 3 4; SET 4 5; SET 5 6; SET 6 7; SET 7 -8");
        Due.hasVariables("before any run", x, 0, 0, 0, 0, 0, 0, 0, 0);
        x.run();
        Due.hasVariables("after a run", x, 1, 2, 3, 4, 5, 6, 7, -8);
    }

    private static void outsideIsZero() {
        SelfModArrayComp x = new SelfModArrayComp();
        for (int v = 0; v < 8; v++) {
            x.start(v, 5);
        }
        x.run();
        for (int v : new int[] {Integer.MIN_VALUE, -8, -1, 8, 9, 15, 24, 256, Integer.MAX_VALUE}) {
            Due.is("variable(" + v + ")", x.variable(v), 0);
        }
    }

    private static void onlyRunsChangeThem() {
        SelfModArrayComp x = Due.program("SET 0 1");
        x.run();
        x.start(0, 6);
        x.start(1, 7);
        Due.feed(x, "SET 0 2; LOOP 1");
        x.check();
        x.run();
        x.retract();
        x.check();
        Due.hasVariables("before the next run", x, 1, 0, 0, 0, 0, 0, 0, 0);
        x.run();
        Due.hasVariables("after the next run", x, 2, 7, 0, 0, 0, 0, 0, 0);
    }
}
