/** Promise 3. */
public final class RetractTest {
    public static void main(String[] args) {
        downToNone();
        takesTheLastOne();
        leavesTheRestAsItIs();
        Due.end();
    }

    private static void downToNone() {
        SelfModArrayComp x = new SelfModArrayComp();
        Due.is("retract() of a new object", x.retract(), SelfModArrayComp.BAD);
        Due.feed(x, Due.times(48, "PRINT 0;"));
        for (int n = 47; n >= 0; n--) {
            Due.is("retract() down to " + n, x.retract(), n);
        }
        Due.is("retract() of none", x.retract(), SelfModArrayComp.BAD);
        Due.is("retract() of none again", x.retract(), SelfModArrayComp.BAD);
        Due.is("add after that", x.add(SelfModArrayComp.END, 0, 0, 0), 1);
    }

    private static void takesTheLastOne() {
        SelfModArrayComp x = Due.program("SET 0 4; PRINT 0; SET 0 5; PRINT 0; LOOP 2");
        Due.is("check() with an open LOOP", x.check(), SelfModArrayComp.MALFORMED);
        Due.is("retract() of the LOOP", x.retract(), 4);
        Due.printsNow(x, "the program without the LOOP", 4, 5);
        Due.is("retract() of a PRINT", x.retract(), 3);
        Due.printsNow(x, "the program without its last PRINT", 4);
        Due.feed(x, "PRINT 7; PRINT 0");
        Due.printsNow(x, "the program with two others for it", 4, 0, 5);
    }

    private static void leavesTheRestAsItIs() {
        SelfModArrayComp x = Due.program("SET 0 4; PUT 0 1 0; PRINT 0");
        x.start(6, 60);
        x.run();
        x.retract();
        x.retract();
        x.retract();
        x.retract();
        Due.is("printed() after retracts", x.printed(), 1);
        Due.is("output(0) after retracts", x.output(0), 4);
        Due.hasVariables("after retracts", x, 4, 0, 0, 0, 0, 0, 60, 0);
        Due.hasCells("after retracts", x, 1, 0, 0, 0, 0, 4, 0, 0, 0);
        x.run();
        Due.hasVariables("after a run without statements", x, 0, 0, 0, 0, 0, 0, 60, 0);
    }
}
