/** Promise 8. */
public final class OutputTest {
    public static void main(String[] args) {
        onlyWhatWasPrinted();
        onlyTheFirst48();
        nothingOfEarlierRuns();
        Due.end();
    }

    private static void outsideIsZero(SelfModArrayComp x, int from) {
        for (int k : new int[] {Integer.MIN_VALUE, -48, -1, from, from + 1, 48, 49, 1000, Integer.MAX_VALUE}) {
            Due.is("output(" + k + ") with " + from + " values", x.output(k), 0);
        }
    }

    private static void onlyWhatWasPrinted() {
        outsideIsZero(new SelfModArrayComp(), 0);
        SelfModArrayComp x = Due.program("SET 0 5; SET 1 -6; PRINT 0; PRINT 1; SET 0 7; PRINT 0");
        outsideIsZero(x, 0);
        Due.printsNow(x, "three PRINTs", 5, -6, 7);
        outsideIsZero(x, 3);
    }

    private static void onlyTheFirst48() {
        SelfModArrayComp x = Due.program("SET 1 1; LOOP 5; LOOP 5; LOOP 2; ADD 0 0 1; PRINT 0; END; END; END");
        Due.is("run() of 50 PRINTs", x.run(), 50);
        for (int k = 0; k < 48; k++) {
            Due.is("output(" + k + ") of 50", x.output(k), k + 1);
        }
        outsideIsZero(x, 48);
        Due.is("variable(0) after 50 PRINTs", x.variable(0), 50);
    }

    private static void nothingOfEarlierRuns() {
        SelfModArrayComp x = Due.program("SET 0 5; PRINT 0; PRINT 0; PRINT 0");
        x.run();
        Due.feed(x, "LOOP 1");
        x.run();
        Due.is("output(2) after a refused run", x.output(2), 5);
        Due.feed(x, "END");
        Due.is("output(2) after an add", x.output(2), 5);
        for (int i = 0; i < 4; i++) {
            x.retract();
        }
        Due.printsNow(x, "one PRINT after three", 5);
        outsideIsZero(x, 1);
        Due.is("output(2) after one PRINT", x.output(2), 0);
        x.retract();
        x.run();
        outsideIsZero(x, 0);
    }
}
