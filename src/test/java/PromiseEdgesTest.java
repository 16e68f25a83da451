/**
 * The boundaries that promises 1 to 11 name: a test for each sentence, on both sides of its boundary. The sentence
 * stands above its test.
 */
public final class PromiseEdgesTest {
    private static final int BAD = SelfModArrayComp.BAD;
    private static final int FULL = SelfModArrayComp.FULL;
    private static final int MOST = Integer.MAX_VALUE;
    private static final int LEAST = Integer.MIN_VALUE;
    // Five lines of a fault each, for programs that begin with a few statements of the main piece.
    private static final String[] FAULTS = {"END", "BODY 0; BODY 0", "CALL 1", "BODY 2; CALL 2",
        "LOOP 5; LOOP 5; LOOP 5;" + Due.times(24, "PRINT 0;") + "END; END; END"};
    private static final int[] FAULT_ANSWERS = {SelfModArrayComp.MALFORMED, SelfModArrayComp.TWICE,
        SelfModArrayComp.MISSING, SelfModArrayComp.RECURSIVE, SelfModArrayComp.TOO_LONG};

    public static void main(String[] args) {
        newObjectIsEmpty();
        newObjectHasStartValuesZero();
        addFullAt48();
        addFullComesBeforeBad();
        addKindsFrom0To11();
        addSetWithinBounds();
        addArithmeticWithinBounds();
        addGetAndPutWithinBounds();
        addIfposAndPrintWithinBounds();
        addLoopWithinBounds();
        addCallAndBodyWithinBounds();
        addUnusedNumbersPlayNoPart();
        addAnswersTheNewNumber();
        addRefusedChangesNothing();
        retractAnswersTheNewNumber();
        retractOfNoneIsBad();
        startFrom0To7();
        startForRunsToCome();
        checkAnswersTheFault();
        runRefusedChangesNothing();
        runBeginsAnew();
        runAnswersTheNumberPrinted();
        printedIsZeroBeforeAny();
        printedOfTheLastRunNotRefused();
        outputOutsideIsZero();
        outputKeepsTheFirst48();
        outputHoldsNothingOfEarlierRuns();
        variableOutsideIsZero();
        variableIsZeroBeforeAnyRun();
        cellOutsideIsZero();
        cellIsZeroBeforeAnyRun();
        clearMakesEverythingNew();
        Due.end();
    }

    // Promise 1: "An empty program, no output; all variables and cells 0"
    private static void newObjectIsEmpty() {
        Due.isAsNew("of a new object", new SelfModArrayComp());
        SelfModArrayComp x = new SelfModArrayComp();
        Due.is("run() of a new object", x.run(), 0);
        Due.is("the first add", x.add(SelfModArrayComp.PRINT, 0, 0, 0), 1);
        Due.is("retract() of one statement", x.retract(), 0);
    }

    // Promise 1: "all start values 0"
    private static void newObjectHasStartValuesZero() {
        String all = "PRINT 0; PRINT 1; PRINT 2; PRINT 3; PRINT 4; PRINT 5; PRINT 6; PRINT 7";
        Due.prints(all, 0, 0, 0, 0, 0, 0, 0, 0);
        SelfModArrayComp x = Due.program(all);
        x.start(0, 1);
        x.start(7, -1);
        Due.printsNow(x, all + " with two start values", 1, 0, 0, 0, 0, 0, 0, -1);
    }

    // Promise 2: "48 statements are there: FULL."
    private static void addFullAt48() {
        SelfModArrayComp x = Due.program(Due.times(46, "PRINT 0;"));
        Due.is("add number 47", x.add(SelfModArrayComp.PRINT, 0, 0, 0), 47);
        Due.is("add number 48", x.add(SelfModArrayComp.PRINT, 0, 0, 0), 48);
        for (int kind = 0; kind < 12; kind++) {
            Due.is("add number 49, of kind " + kind, x.add(kind, 1, 1, 1), FULL);
        }
        Due.is("retract() of 48", x.retract(), 47);
        Due.is("add number 48 again", x.add(SelfModArrayComp.PRINT, 0, 0, 0), 48);
        Due.is("add number 49 again", x.add(SelfModArrayComp.PRINT, 0, 0, 0), FULL);
    }

    // Promise 2: "Tested in this order"
    private static void addFullComesBeforeBad() {
        int[][] wrong = {{-1, 0, 0, 0}, {12, 0, 0, 0}, {LEAST, 0, 0, 0}, {MOST, 0, 0, 0},
            {SelfModArrayComp.SET, 8, 0, 0}, {SelfModArrayComp.ADD, 0, 0, 8}, {SelfModArrayComp.GET, 0, 3, 0},
            {SelfModArrayComp.LOOP, 0, 0, 0}, {SelfModArrayComp.CALL, 4, 0, 0}, {SelfModArrayComp.BODY, -1, 0, 0}};
        SelfModArrayComp x = Due.program(Due.times(47, "PRINT 0;"));
        for (int[] w : wrong) {
            Due.is("a wrong add of kind " + w[0] + " with 47 there", x.add(w[0], w[1], w[2], w[3]), BAD);
        }
        Due.feed(x, "PRINT 0");
        for (int[] w : wrong) {
            Due.is("a wrong add of kind " + w[0] + " with 48 there", x.add(w[0], w[1], w[2], w[3]), FULL);
        }
    }

    // Promise 2: "kind outside 0..11: BAD."
    private static void addKindsFrom0To11() {
        for (int kind = 0; kind <= 11; kind++) {
            Due.is("add(" + kind + ", 1, 1, 1)", new SelfModArrayComp().add(kind, 1, 1, 1), 1);
        }
        for (int kind : new int[] {LEAST, -12, -1, 12, 13, 1 << 8, 1 << 16, MOST}) {
            Due.is("add(" + kind + ", 1, 1, 1)", new SelfModArrayComp().add(kind, 1, 1, 1), BAD);
        }
    }

    // Promise 2: "SET: a outside 0..7" is BAD.
    private static void addSetWithinBounds() {
        bounds(SelfModArrayComp.SET, 0, 0, 7);
    }

    // Promise 2: "ADD, SUB, MUL: a, b or c outside 0..7" is BAD.
    private static void addArithmeticWithinBounds() {
        for (int number = 0; number < 3; number++) {
            bounds(SelfModArrayComp.ADD, number, 0, 7);
            bounds(SelfModArrayComp.SUB, number, 0, 7);
            bounds(SelfModArrayComp.MUL, number, 0, 7);
        }
    }

    // Promise 2: "GET, PUT: a or c outside 0..7 or b outside 0..2" is BAD.
    private static void addGetAndPutWithinBounds() {
        for (int number = 0; number < 3; number++) {
            bounds(SelfModArrayComp.GET, number, 0, number == 1 ? 2 : 7);
            bounds(SelfModArrayComp.PUT, number, 0, number == 1 ? 2 : 7);
        }
    }

    // Promise 2: "IFPOS, PRINT: a outside 0..7" is BAD.
    private static void addIfposAndPrintWithinBounds() {
        bounds(SelfModArrayComp.IFPOS, 0, 0, 7);
        bounds(SelfModArrayComp.PRINT, 0, 0, 7);
    }

    // Promise 2: "LOOP: a outside 1..5" is BAD.
    private static void addLoopWithinBounds() {
        bounds(SelfModArrayComp.LOOP, 0, 1, 5);
    }

    // Promise 2: "CALL, BODY: a outside 0..3: BAD."
    private static void addCallAndBodyWithinBounds() {
        bounds(SelfModArrayComp.CALL, 0, 0, 3);
        bounds(SelfModArrayComp.BODY, 0, 0, 3);
    }

    private static void bounds(int kind, int number, int from, int to) {
        for (int n = from; n <= to; n++) {
            addWith(kind, number, n, 1);
        }
        for (int n : new int[] {LEAST, from - 2, from - 1, to + 1, to + 2, 1 << 8, 1 << 16, MOST}) {
            addWith(kind, number, n, BAD);
        }
    }

    private static void addWith(int kind, int number, int n, int due) {
        int[] numbers = {1, 1, 1};
        numbers[number] = n;
        String call = "add(" + kind + ", " + numbers[0] + ", " + numbers[1] + ", " + numbers[2] + ")";
        Due.is(call, new SelfModArrayComp().add(kind, numbers[0], numbers[1], numbers[2]), due);
    }

    // Promise 2: "Numbers that a kind does not have play no part."
    private static void addUnusedNumbersPlayNoPart() {
        for (int n : new int[] {LEAST, -1, 0, 7, 8, 48, MOST}) {
            SelfModArrayComp x = new SelfModArrayComp();
            Due.is("add of LOOP 2 with " + n, x.add(SelfModArrayComp.LOOP, 2, n, n), 1);
            Due.is("add of SET 3 9 with " + n, x.add(SelfModArrayComp.SET, 3, 9, n), 2);
            Due.is("add of SET 4 " + n + " with " + n, x.add(SelfModArrayComp.SET, 4, n, n), 3);
            Due.is("add of IFPOS 3 with " + n, x.add(SelfModArrayComp.IFPOS, 3, n, n), 4);
            Due.is("add of PRINT 4 with " + n, x.add(SelfModArrayComp.PRINT, 4, n, n), 5);
            Due.is("add of END with " + n, x.add(SelfModArrayComp.END, n, n, n), 6);
            Due.is("add of CALL 0 with " + n, x.add(SelfModArrayComp.CALL, 0, n, n), 7);
            Due.is("add of END with " + n, x.add(SelfModArrayComp.END, n, n, n), 8);
            Due.is("add of BODY 0 with " + n, x.add(SelfModArrayComp.BODY, 0, n, n), 9);
            Due.is("add of PRINT 3 with " + n, x.add(SelfModArrayComp.PRINT, 3, n, n), 10);
            Due.printsNow(x, "a program with " + n + " for what is unused", n, 9, n, 9);
        }
    }

    // Promise 2: "Else answers the new number of statements."
    private static void addAnswersTheNewNumber() {
        SelfModArrayComp x = new SelfModArrayComp();
        for (int n = 1; n <= 48; n++) {
            Due.is("add number " + n, x.add(n % 12, 1, 1, 1), n);
        }
        Due.is("add number 49", x.add(0, 1, 1, 1), FULL);
    }

    // Promise 2: "Adds a statement at the end", and so adds none when it answers BAD or FULL.
    private static void addRefusedChangesNothing() {
        SelfModArrayComp x = Due.program("SET 0 3; PRINT 0");
        Due.is("add of PRINT 8", x.add(SelfModArrayComp.PRINT, 8, 0, 0), BAD);
        Due.is("add of kind 12", x.add(12, 0, 0, 0), BAD);
        Due.printsNow(x, "two statements after bad ones", 3);
        Due.is("retract() after bad ones", x.retract(), 1);
        Due.printsNow(x, "one statement after bad ones");
        Due.feed(x, Due.times(47, "PRINT 0;"));
        Due.is("add of END when full", x.add(SelfModArrayComp.END, 0, 0, 0), FULL);
        Due.is("check() after FULL", x.check(), SelfModArrayComp.OK);
        Due.is("run() after FULL", x.run(), 47);
        Due.is("output(46) after FULL", x.output(46), 3);
        Due.is("retract() after FULL", x.retract(), 47);
    }

    // Promise 3: "Takes the last statement away; answers the new number of statements"
    private static void retractAnswersTheNewNumber() {
        SelfModArrayComp x = new SelfModArrayComp();
        for (int n = 0; n < 48; n++) {
            x.add(SelfModArrayComp.PRINT, n & 7, 0, 0);
        }
        for (int v = 0; v < 8; v++) {
            x.start(v, v + 100);
        }
        for (int n = 47; n >= 0; n--) {
            Due.is("retract() down to " + n, x.retract(), n);
            Due.is("run() of " + n + " statements", x.run(), n);
            Due.is("output(" + (n - 1) + ") of " + n, x.output(n - 1), n > 0 ? 100 + (n - 1 & 7) : 0);
            Due.is("output(" + n + ") of " + n, x.output(n), 0);
        }
    }

    // Promise 3: "BAD if there was none"
    private static void retractOfNoneIsBad() {
        SelfModArrayComp x = new SelfModArrayComp();
        Due.is("retract() of none", x.retract(), BAD);
        Due.is("retract() of none, again", x.retract(), BAD);
        Due.is("check() after it", x.check(), SelfModArrayComp.OK);
        Due.is("add after it", x.add(SelfModArrayComp.PRINT, 0, 0, 0), 1);
        Due.is("retract() of one", x.retract(), 0);
        Due.is("retract() of none after one", x.retract(), BAD);
        for (int n = 1; n <= 48; n++) {
            Due.is("add number " + n + " after it", x.add(SelfModArrayComp.PRINT, 0, 0, 0), n);
        }
        Due.is("add number 49 after it", x.add(SelfModArrayComp.PRINT, 0, 0, 0), FULL);
    }

    // Promise 4: "v outside 0..7: refused, answers false. Else true."
    private static void startFrom0To7() {
        SelfModArrayComp x = new SelfModArrayComp();
        for (int v = 0; v < 8; v++) {
            Due.is("start(" + v + ", ..)", x.start(v, 10 + v), true);
        }
        for (int v : new int[] {LEAST, -8, -1, 8, 9, 1 << 8, 1 << 16, MOST}) {
            Due.is("start(" + v + ", 5)", x.start(v, 5), false);
        }
        x.run();
        Due.hasVariables("after refused starts", x, 10, 11, 12, 13, 14, 15, 16, 17);
        for (int value : new int[] {LEAST, -1, 0, 1, MOST}) {
            Due.is("start(0, " + value + ")", x.start(0, value), true);
            Due.is("start(7, " + value + ")", x.start(7, value), true);
            x.run();
            Due.hasVariables("started from " + value, x, value, 11, 12, 13, 14, 15, 16, value);
        }
    }

    // Promise 4: "Sets the start value of a variable for runs to come."
    private static void startForRunsToCome() {
        SelfModArrayComp x = Due.program("PRINT 3; SET 3 50");
        x.start(3, 7);
        Due.is("variable(3) before the run", x.variable(3), 0);
        Due.printsNow(x, "the first run to come", 7);
        Due.printsNow(x, "the second run to come", 7);
        x.start(3, 8);
        x.start(3, 9);
        Due.is("variable(3) after later starts", x.variable(3), 50);
        Due.is("output(0) after later starts", x.output(0), 7);
        Due.feed(x, "END");
        Due.is("a refused run", x.run(), SelfModArrayComp.MALFORMED);
        x.retract();
        Due.printsNow(x, "the run after a refused one", 9);
    }

    // Promise 5: "The program's fault, or OK."
    private static void checkAnswersTheFault() {
        Due.check("", SelfModArrayComp.OK);
        for (int i = 0; i < FAULTS.length; i++) {
            SelfModArrayComp x = Due.program("PRINT 0");
            Due.is("check() before " + FAULTS[i], x.check(), SelfModArrayComp.OK);
            Due.feed(x, FAULTS[i]);
            Due.is("check() with " + FAULTS[i], x.check(), FAULT_ANSWERS[i]);
            Due.is("check() with " + FAULTS[i] + ", again", x.check(), FAULT_ANSWERS[i]);
            Due.retractTo(x, 1);
            Due.is("check() without " + FAULTS[i], x.check(), SelfModArrayComp.OK);
        }
        // A fault that is taken away again leaves no trace, whatever the subroutine.
        for (int s = 0; s < 4; s++) {
            SelfModArrayComp x = Due.program("BODY " + s + "; CALL " + s);
            Due.is("check() with BODY " + s + "; CALL " + s, x.check(), SelfModArrayComp.RECURSIVE);
            x.retract();
            Due.is("check() with BODY " + s, x.check(), SelfModArrayComp.OK);
            x.retract();
            Due.feed(x, "CALL " + s);
            Due.is("check() with CALL " + s, x.check(), SelfModArrayComp.MISSING);
        }
    }

    // Promise 6: "If the program has a fault: answers it and changes nothing."
    private static void runRefusedChangesNothing() {
        for (int i = 0; i < FAULTS.length; i++) {
            SelfModArrayComp x = Due.program("SET 1 8; SET 7 7; PUT 1 0 7; PUT 7 2 1; PRINT 1; PRINT 0");
            x.start(0, 3);
            Due.printsNow(x, "the run before " + FAULTS[i], 8, 3);
            x.start(0, 4);
            Due.feed(x, FAULTS[i]);
            int size = x.add(SelfModArrayComp.PUT, 0, 0, 0);
            Due.is("run() with " + FAULTS[i], x.run(), FAULT_ANSWERS[i]);
            Due.is("printed() with " + FAULTS[i], x.printed(), 2);
            Due.is("output(0) with " + FAULTS[i], x.output(0), 8);
            Due.is("output(1) with " + FAULTS[i], x.output(1), 3);
            Due.is("output(2) with " + FAULTS[i], x.output(2), 0);
            Due.hasVariables("with " + FAULTS[i], x, 3, 8, 0, 0, 0, 0, 0, 7);
            Due.hasCells("with " + FAULTS[i], x, 0, 0, 0, 0, 0, 0, 0, 0, 8);
            Due.hasCells("with " + FAULTS[i], x, 1, 0, 0, 0, 0, 0, 0, 0, 0);
            Due.hasCells("with " + FAULTS[i], x, 2, 7, 0, 0, 0, 0, 0, 0, 0);
            Due.is("retract() with " + FAULTS[i], x.retract(), size - 1);
            for (int left = size - 2; left > 6; left--) {
                Due.is("retract() without " + FAULTS[i], x.retract(), left);
                x.run();
            }
            Due.is("retract() of the last of " + FAULTS[i], x.retract(), 6);
            Due.printsNow(x, "the run after " + FAULTS[i], 8, 4);
        }
    }

    // Promise 6: "every variable becomes its start value, every cell 0, the output empty"
    private static void runBeginsAnew() {
        String fill = "SET 1 1; LOOP 4; CALL 0; CALL 0; END;"
            + "BODY 0; PUT 1 0 0; PUT 1 1 0; PUT 1 2 0; ADD 0 0 1; PRINT 1";
        SelfModArrayComp x = Due.program(fill);
        for (int v = 0; v < 8; v++) {
            x.start(v, v * 8);
        }
        Due.printsNow(x, fill, 1, 1, 1, 1, 1, 1, 1, 1);
        for (int array = 0; array < 3; array++) {
            Due.hasCells("after " + fill, x, array, 1, 1, 1, 1, 1, 1, 1, 1);
        }
        Due.hasVariables("after " + fill, x, 8, 1, 16, 24, 32, 40, 48, 56);
        Due.retractTo(x, 0);
        Due.printsNow(x, "no statements");
        for (int array = 0; array < 3; array++) {
            Due.hasCells("after no statements", x, array, 0, 0, 0, 0, 0, 0, 0, 0);
        }
        Due.hasVariables("after no statements", x, 0, 8, 16, 24, 32, 40, 48, 56);
    }

    // Promise 6: "Answers the number of values printed."
    private static void runAnswersTheNumberPrinted() {
        Due.is("run() of nothing", Due.program("").run(), 0);
        Due.is("run() of no PRINT", Due.program("SET 0 1").run(), 0);
        Due.is("run() of a PRINT left out", Due.program("IFPOS 0; PRINT 0; END").run(), 0);
        Due.is("run() of one PRINT", Due.program("PRINT 0").run(), 1);
        for (int more = 0; more <= 5; more++) {
            String text = "LOOP 5; LOOP 3; LOOP 3; PRINT 0; END; END; END;" + Due.times(more, "PRINT 0;");
            Due.is("run() of " + (45 + more) + " PRINTs", Due.program(text).run(), 45 + more);
        }
        // 62 + 125 * 23 + 25 * 2 + 5 * 2 + 3 is 3000, and all but the 62 are PRINTs.
        String most = "LOOP 5; LOOP 5; LOOP 5;" + Due.times(23, "PRINT 0;")
            + "END; PRINT 0; PRINT 0; END; PRINT 0; PRINT 0; END; PRINT 0; PRINT 0; PRINT 0";
        Due.is("run() of 2938 PRINTs", Due.program(most).run(), 2938);
    }

    // Promise 7: "0 before any"
    private static void printedIsZeroBeforeAny() {
        SelfModArrayComp x = new SelfModArrayComp();
        Due.is("printed() of a new object", x.printed(), 0);
        Due.feed(x, "PRINT 0; END");
        x.check();
        x.run();
        Due.is("printed() after a refused run only", x.printed(), 0);
        x.retract();
        x.check();
        Due.is("printed() before the first run", x.printed(), 0);
        x.run();
        Due.is("printed() after the first run", x.printed(), 1);
    }

    // Promise 7: "The number of values that the last run that was not refused printed"
    private static void printedOfTheLastRunNotRefused() {
        SelfModArrayComp x = new SelfModArrayComp();
        for (int n = 1; n <= 47; n++) {
            Due.feed(x, "PRINT 0");
            Due.is("printed() before run number " + n, x.printed(), n - 1);
            x.run();
            Due.is("printed() after run number " + n, x.printed(), n);
        }
        Due.feed(x, "END");
        x.run();
        Due.is("printed() after a refused run", x.printed(), 47);
        x.retract();
        Due.feed(x, "PRINT 0");
        x.run();
        Due.is("printed() of 48", x.printed(), 48);
        SelfModArrayComp y = Due.program("LOOP 5; LOOP 5; LOOP 2; PRINT 0; END; END; END");
        y.run();
        Due.is("printed() of 50, though 48 are kept", y.printed(), 50);
        Due.feed(y, "CALL 0");
        y.run();
        Due.is("printed() of 50 after a refused run", y.printed(), 50);
    }

    /** Prints 101, 102 and so on, n values from 45 to 50. */
    private static SelfModArrayComp countsTo(int n) {
        SelfModArrayComp x = Due.program("LOOP 5; LOOP 3; LOOP 3; CALL 0; END; END; END;" + Due.times(n - 45, "CALL 0;")
            + "BODY 0; ADD 0 0 1; PRINT 0");
        x.start(0, 100);
        x.start(1, 1);
        Due.is("run() of " + n + " values", x.run(), n);
        return x;
    }

    // Promise 8: "0 for k outside 0 .. printed() - 1"
    private static void outputOutsideIsZero() {
        SelfModArrayComp none = new SelfModArrayComp();
        Due.is("output(0) before any run", none.output(0), 0);
        SelfModArrayComp x = new SelfModArrayComp();
        x.start(0, 5);
        for (int n = 1; n <= 3; n++) {
            Due.feed(x, "PRINT 0");
            x.run();
            Due.is("output(0) of " + n, x.output(0), 5);
            Due.is("output(" + (n - 1) + ") of " + n, x.output(n - 1), 5);
            for (int k : new int[] {LEAST, -48, -1, n, n + 1, 47, 48, 1 << 8, 1 << 16, MOST}) {
                Due.is("output(" + k + ") of " + n, x.output(k), 0);
            }
        }
    }

    // Promise 8: "only the first 48 values of an output are kept" and 0 "for k of 48 or more"
    private static void outputKeepsTheFirst48() {
        for (int n = 45; n <= 50; n++) {
            SelfModArrayComp x = countsTo(n);
            for (int k = 0; k <= 50; k++) {
                Due.is("output(" + k + ") of " + n, x.output(k), k < n && k < 48 ? 101 + k : 0);
            }
            Due.is("variable(0) after " + n, x.variable(0), 100 + n);
            Due.is("output(-1) of " + n, x.output(-1), 0);
            Due.is("output(MAX_VALUE) of " + n, x.output(MOST), 0);
        }
    }

    // Promise 8: "Value k of that output", which is the one of the last run that was not refused
    private static void outputHoldsNothingOfEarlierRuns() {
        SelfModArrayComp x = countsTo(50);
        Due.feed(x, "CALL 3");
        Due.is("a refused run", x.run(), SelfModArrayComp.MISSING);
        Due.is("output(0) after a refused run", x.output(0), 101);
        Due.is("output(47) after a refused run", x.output(47), 148);
        Due.retractTo(x, 0);
        Due.is("output(47) after retracts", x.output(47), 148);
        Due.feed(x, "PRINT 1; PRINT 0");
        Due.printsNow(x, "two values after fifty", 1, 100);
        for (int k = 2; k <= 50; k++) {
            Due.is("output(" + k + ") of two values after fifty", x.output(k), 0);
        }
    }

    // Promise 9: "0 for v outside 0..7"
    private static void variableOutsideIsZero() {
        SelfModArrayComp x = Due.prints("SET 0 10; SET 1 11; SET 2 12; SET 3 13;"
            + "SET 4 14; SET 5 15; SET 6 16; SET 7 17");
        Due.hasVariables("after eight SETs", x, 10, 11, 12, 13, 14, 15, 16, 17);
        for (int v : new int[] {LEAST, -8, -1, 8, 9, 15, 1 << 8, 1 << 16, MOST}) {
            Due.is("variable(" + v + ")", x.variable(v), 0);
        }
    }

    // Promise 9: "A variable's present value (0 before any run)"
    private static void variableIsZeroBeforeAnyRun() {
        SelfModArrayComp x = Due.program("SET 0 4; END");
        x.start(0, 2);
        x.start(7, 3);
        x.check();
        x.run();
        Due.hasVariables("before any run that was not refused", x, 0, 0, 0, 0, 0, 0, 0, 0);
        x.retract();
        x.run();
        Due.hasVariables("after the first run", x, 4, 0, 0, 0, 0, 0, 0, 3);
    }

    // Promise 10: "0 for array outside 0..2 or i outside 0..7"
    private static void cellOutsideIsZero() {
        String fill = "SET 1 1; SET 2 9; LOOP 4; CALL 0; CALL 0; END;"
            + "BODY 0; PUT 2 0 0; PUT 2 1 0; PUT 2 2 0; ADD 0 0 1";
        int[] tried = {LEAST, -24, -16, -9, -8, -3, -2, -1, 0, 1, 2, 3, 4, 7, 8, 9, 15, 16, 23, 24, 1 << 8, 1 << 29,
            1 << 30, MOST};
        for (int array : tried) {
            SelfModArrayComp x = Due.prints(fill);
            for (int i : tried) {
                boolean inside = array >= 0 && array <= 2 && i >= 0 && i <= 7;
                Due.is("cell(" + array + ", " + i + ")", x.cell(array, i), inside ? 9 : 0);
            }
        }
    }

    // Promise 10: "Cell i of an array at present (0 before any run)"
    private static void cellIsZeroBeforeAnyRun() {
        SelfModArrayComp x = Due.program("PUT 0 0 1; PUT 0 2 2; END");
        x.start(0, 5);
        x.start(2, 7);
        x.check();
        x.run();
        Due.hasCells("before any run that was not refused", x, 0, 0, 0, 0, 0, 0, 0, 0, 0);
        Due.hasCells("before any run that was not refused", x, 2, 0, 0, 0, 0, 0, 0, 0, 0);
        x.retract();
        x.run();
        Due.hasCells("after the first run", x, 0, 5, 0, 0, 0, 0, 0, 0, 0);
        Due.hasCells("after the first run", x, 2, 0, 0, 0, 0, 0, 0, 0, 5);
    }

    // Promise 11: "Makes everything as in the beginning."
    private static void clearMakesEverythingNew() {
        SelfModArrayComp x = new SelfModArrayComp();
        x.clear();
        Due.isAsNew("after a clear of a new object", x);
        x = countsTo(50);
        x.clear();
        Due.isAsNew("after a clear of fifty values", x);
        Due.is("run() after a clear", x.run(), 0);
        Due.hasVariables("after a clear and a run", x, 0, 0, 0, 0, 0, 0, 0, 0);
        for (int n = 1; n <= 48; n++) {
            Due.is("add number " + n + " after a clear", x.add(SelfModArrayComp.PRINT, 0, 0, 0), n);
        }
        Due.is("add number 49 after a clear", x.add(SelfModArrayComp.PRINT, 0, 0, 0), FULL);
        x.clear();
        Due.is("add after a clear of a full program", x.add(SelfModArrayComp.PRINT, 0, 0, 0), 1);
        Due.printsNow(x, "PRINT 0 after a clear", 0);
        Due.feed(x, "END");
        x.run();
        x.clear();
        Due.isAsNew("after a clear of a fault", x);
    }
}
