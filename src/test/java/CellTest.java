/** Promise 10. */
public final class CellTest {
    private static final String FILL = "SET 1 1; LOOP 5; CALL 0; END; LOOP 3; CALL 0; END;"
        + "BODY 0; ADD 2 3 1; PUT 2 0 3; ADD 2 2 2; PUT 2 1 3; ADD 2 2 2; PUT 2 2 3; ADD 3 3 1";

    public static void main(String[] args) {
        everyCell();
        outsideIsZero();
        onlyRunsChangeThem();
        Due.end();
    }

    private static void everyCell() {
        SelfModArrayComp x = Due.program(FILL);
        for (int array = 0; array < 3; array++) {
            Due.hasCells("before any run", x, array, 0, 0, 0, 0, 0, 0, 0, 0);
        }
        x.run();
        Due.hasCells("after a run", x, 0, 1, 2, 3, 4, 5, 6, 7, 8);
        Due.hasCells("after a run", x, 1, 2, 4, 6, 8, 10, 12, 14, 16);
        Due.hasCells("after a run", x, 2, 4, 8, 12, 16, 20, 24, 28, 32);
        Due.retractTo(x, 0);
        x.run();
        for (int array = 0; array < 3; array++) {
            Due.hasCells("after a run of no statements", x, array, 0, 0, 0, 0, 0, 0, 0, 0);
        }
    }

    private static void outsideIsZero() {
        SelfModArrayComp x = Due.program(FILL);
        x.run();
        int[] outside = {Integer.MIN_VALUE, -8, -1, 8, 9, 16, 256, Integer.MAX_VALUE};
        for (int wrong : outside) {
            for (int i = 0; i < 3; i++) {
                Due.is("cell(" + i + ", " + wrong + ")", x.cell(i, wrong), 0);
            }
            for (int i = 0; i < 8; i++) {
                Due.is("cell(" + wrong + ", " + i + ")", x.cell(wrong, i), 0);
            }
            for (int alsoWrong : outside) {
                Due.is("cell(" + wrong + ", " + alsoWrong + ")", x.cell(wrong, alsoWrong), 0);
            }
        }
        Due.is("cell(3, 0)", x.cell(3, 0), 0);
        Due.is("cell(-1, 8)", x.cell(-1, 8), 0);
        Due.is("cell(1, -1)", x.cell(1, -1), 0);
        // 2^29 arrays of 8 cells would come round to the first cell again.
        Due.is("cell(1 << 29, 0)", x.cell(1 << 29, 0), 0);
    }

    private static void onlyRunsChangeThem() {
        SelfModArrayComp x = Due.program("SET 0 5; PUT 0 1 1");
        x.run();
        Due.feed(x, "PUT 0 1 0; LOOP 1");
        x.check();
        x.run();
        x.retract();
        x.check();
        Due.hasCells("before the next run", x, 1, 5, 0, 0, 0, 0, 0, 0, 0);
        x.run();
        Due.hasCells("after the next run", x, 1, 5, 0, 0, 0, 0, 5, 0, 0);
        x.retract();
        x.run();
        Due.hasCells("after a run without the second PUT", x, 1, 5, 0, 0, 0, 0, 0, 0, 0);
    }
}
