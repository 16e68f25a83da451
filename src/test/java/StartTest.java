/** Promise 4. */
public final class StartTest {
    public static void main(String[] args) {
        everyVariable();
        wrongVariables();
        onlyForRunsToCome();
        staysThroughRuns();
        Due.end();
    }

    private static void everyVariable() {
        SelfModArrayComp x = new SelfModArrayComp();
        for (int v = 0; v < 8; v++) {
            Due.is("start(" + v + ", ..)", x.start(v, 100 - v), true);
        }
        Due.is("start(0, MIN_VALUE)", x.start(0, Integer.MIN_VALUE), true);
        Due.is("start(7, MAX_VALUE)", x.start(7, Integer.MAX_VALUE), true);
        x.run();
        Due.hasVariables("after a run", x, Integer.MIN_VALUE, 99, 98, 97, 96, 95, 94, Integer.MAX_VALUE);
    }

    private static void wrongVariables() {
        SelfModArrayComp x = new SelfModArrayComp();
        for (int v : new int[] {Integer.MIN_VALUE, -8, -1, 8, 9, 15, 256, Integer.MAX_VALUE}) {
            Due.is("start(" + v + ", 5)", x.start(v, 5), false);
        }
        x.run();
        Due.hasVariables("after refused starts and a run", x, 0, 0, 0, 0, 0, 0, 0, 0);
    }

    private static void onlyForRunsToCome() {
        SelfModArrayComp x = Due.program("PRINT 2");
        x.start(2, 5);
        Due.is("variable(2) before any run", x.variable(2), 0);
        Due.printsNow(x, "PRINT 2 with start value 5", 5);
        x.start(2, 6);
        Due.is("variable(2) before the next run", x.variable(2), 5);
        Due.is("output(0) before the next run", x.output(0), 5);
        Due.printsNow(x, "PRINT 2 with start value 6", 6);
        Due.is("variable(2) after the next run", x.variable(2), 6);
    }

    private static void staysThroughRuns() {
        SelfModArrayComp x = Due.program("ADD 2 2 2; PRINT 2");
        x.start(2, 5);
        Due.printsNow(x, "the first run", 10);
        Due.printsNow(x, "the second run", 10);
        Due.feed(x, "LOOP 1");
        Due.is("run() with a fault", x.run(), SelfModArrayComp.MALFORMED);
        x.retract();
        Due.printsNow(x, "the run after a refused one", 10);
    }
}
