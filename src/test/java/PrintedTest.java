/** Promise 7. */
public final class PrintedTest {
    public static void main(String[] args) {
        beforeAnyRun();
        ofTheLastRun();
        moreThanAreKept();
        Due.end();
    }

    private static void beforeAnyRun() {
        SelfModArrayComp x = new SelfModArrayComp();
        Due.is("printed() of a new object", x.printed(), 0);
        Due.feed(x, "PRINT 0; PRINT 0; LOOP 2");
        Due.is("printed() before any run", x.printed(), 0);
        x.run();
        Due.is("printed() after a refused run alone", x.printed(), 0);
    }

    private static void ofTheLastRun() {
        SelfModArrayComp x = Due.program("PRINT 0; PRINT 0");
        x.run();
        Due.is("printed() after a run", x.printed(), 2);
        x.run();
        Due.is("printed() after the same run again", x.printed(), 2);
        Due.feed(x, "PRINT 0");
        Due.is("printed() with a new statement", x.printed(), 2);
        x.run();
        Due.is("printed() after a run with it", x.printed(), 3);
        Due.feed(x, "CALL 3");
        x.run();
        Due.is("printed() after a refused run", x.printed(), 3);
        for (int i = 0; i < 4; i++) {
            x.retract();
        }
        Due.is("printed() after retracts", x.printed(), 3);
        x.run();
        Due.is("printed() after a run that printed nothing", x.printed(), 0);
    }

    private static void moreThanAreKept() {
        for (int n = 47; n <= 48; n++) {
            SelfModArrayComp x = Due.program(Due.times(n, "PRINT 0;"));
            Due.is("run() of " + n + " PRINTs", x.run(), n);
            Due.is("printed() of " + n + " PRINTs", x.printed(), n);
        }
        SelfModArrayComp x = Due.program("LOOP 5; LOOP 5; LOOP 5;" + Due.times(23, "PRINT 0;") + "END; END; END");
        Due.is("run() of 2875 PRINTs", x.run(), 2875);
        Due.is("printed() of 2875 PRINTs", x.printed(), 2875);
        Due.is("printed() of 2875 PRINTs, again", x.printed(), 2875);
    }
}
