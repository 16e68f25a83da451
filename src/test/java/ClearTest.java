/** Promise 11. */
public final class ClearTest {
    public static void main(String[] args) {
        afterARun();
        afterAFullProgram();
        afterAFault();
        startValues();
        Due.end();
    }

    private static SelfModArrayComp used() {
        SelfModArrayComp x = Due.program("SET 0 4; SET 6 5; PUT 0 0 0; PUT 0 1 6; PUT 0 2 7; PRINT 0; CALL 2; BODY 2; PRINT 6");
        for (int v = 0; v < 8; v++) {
            x.start(v, v + 20);
        }
        x.run();
        return x;
    }

    private static void afterARun() {
        SelfModArrayComp x = used();
        x.clear();
        Due.isAsNew("after a clear", x);
        Due.is("run() after a clear", x.run(), 0);
        Due.is("add after a clear", x.add(SelfModArrayComp.PRINT, 0, 0, 0), 1);
        Due.printsNow(x, "PRINT 0 after a clear", 0);
        x.clear();
        x.clear();
        Due.isAsNew("after two more clears", x);
    }

    private static void afterAFullProgram() {
        SelfModArrayComp x = Due.program(Due.times(48, "PRINT 0;"));
        x.run();
        x.clear();
        Due.isAsNew("after a clear of a full program", x);
        Due.is("add after a clear of a full program", x.add(SelfModArrayComp.PRINT, 0, 0, 0), 1);
    }

    private static void afterAFault() {
        SelfModArrayComp x = used();
        Due.feed(x, "CALL 2; CALL 3; BODY 2; LOOP 5");
        x.run();
        x.clear();
        Due.isAsNew("after a clear of a program with faults", x);
        Due.feed(x, "BODY 2; PRINT 0");
        Due.is("check() of a program fed after a clear", x.check(), SelfModArrayComp.OK);
    }

    private static void startValues() {
        SelfModArrayComp x = used();
        x.clear();
        x.run();
        Due.hasVariables("after a clear and a run", x, 0, 0, 0, 0, 0, 0, 0, 0);
        x.start(3, 9);
        x.run();
        Due.hasVariables("after a clear, a start and a run", x, 0, 0, 0, 9, 0, 0, 0, 0);
    }
}
