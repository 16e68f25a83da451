/** Promise 6, with the statements that the terms explain. */
public final class RunTest {
    public static void main(String[] args) {
        arithmetic();
        arithmeticWraps();
        getAndPut();
        ifPositive();
        loops();
        blocksInBlocks();
        calls();
        callsInCalls();
        everyRunBeginsAnew();
        refusedRunChangesNothing();
        heaviestPrograms();
        Due.end();
    }

    private static void arithmetic() {
        Due.prints("");
        Due.prints("SET 0 7; SET 1 -3; ADD 2 0 1; PRINT 2; SUB 3 0 1; PRINT 3; MUL 4 0 1; PRINT 4", 4, 10, -21);
        Due.prints("SET 5 3; SET 5 8; PRINT 5; PRINT 5", 8, 8);
        Due.prints("SET 1 6; ADD 1 1 1; PRINT 1; MUL 1 1 1; PRINT 1; SUB 1 1 1; PRINT 1", 12, 144, 0);
        Due.prints("SET 1 6; SET 2 2; SUB 1 2 1; PRINT 1; SUB 2 2 1; PRINT 2", -4, 6);
        SelfModArrayComp x = Due.prints("SET 0 1; SET 7 2; ADD 3 7 0; MUL 4 7 3");
        Due.hasVariables("after arithmetic", x, 1, 0, 0, 3, 6, 0, 0, 2);
    }

    private static void arithmeticWraps() {
        int most = Integer.MAX_VALUE;
        int least = Integer.MIN_VALUE;
        SelfModArrayComp x = Due.program("SET 0 " + most + "; SET 1 " + least + "; SET 2 1; SET 3 65536");
        Due.feed(x, "ADD 4 0 2; PRINT 4; SUB 4 1 2; PRINT 4; MUL 4 3 3; PRINT 4; MUL 4 0 0; PRINT 4");
        Due.feed(x, "ADD 4 1 1; PRINT 4; SUB 4 7 1; PRINT 4; MUL 4 1 0; PRINT 4");
        Due.printsNow(x, "wrapping arithmetic", least, most, 0, 1, 0, least, least);
    }

    private static void getAndPut() {
        Due.prints("SET 0 5; SET 1 3; PUT 0 2 1; GET 4 2 1; PRINT 4; GET 4 1 1; PRINT 4; GET 4 2 0; PRINT 4", 5, 0, 0);
        int[] indexes = {0, 7, 8, 15, -1, -8, -9, Integer.MAX_VALUE, Integer.MIN_VALUE, 1000003};
        for (int index : indexes) {
            for (int array = 0; array < 3; array++) {
                String put = "SET 0 66; SET 1 " + index + "; PUT 0 " + array + " 1;";
                String get = "SET 2 " + (index & 7) + "; GET 3 " + array + " 2; PRINT 3; GET 4 " + array + " 1; PRINT 4";
                SelfModArrayComp x = Due.prints(put + get, 66, 66);
                int[] due = new int[8];
                due[index & 7] = 66;
                Due.hasCells("after " + put, x, array, due);
                Due.hasCells("after " + put, x, (array + 1) % 3, new int[8]);
                Due.hasCells("after " + put, x, (array + 2) % 3, new int[8]);
            }
        }
        Due.prints("SET 3 2; PUT 3 0 3; SET 3 2; GET 3 0 3; PRINT 3; GET 3 0 3; PRINT 3; GET 3 0 3; PRINT 3", 2, 2, 2);
        Due.prints("SET 3 2; PUT 3 0 3; SET 4 10; PUT 4 0 4; GET 3 0 3; PRINT 3", 10);
        Due.prints("SET 0 9; PUT 0 1 1; GET 1 1 1; PRINT 1", 9);
    }

    private static void ifPositive() {
        String text = "IFPOS 0; PRINT 1; END; PRINT 2";
        int[] starts = {Integer.MIN_VALUE, -1, 0, 1, 2, Integer.MAX_VALUE};
        for (int value : starts) {
            SelfModArrayComp x = Due.program(text);
            x.start(0, value);
            x.start(1, 11);
            x.start(2, 22);
            if (value > 0) {
                Due.printsNow(x, text + " from " + value, 11, 22);
            } else {
                Due.printsNow(x, text + " from " + value, 22);
            }
        }
        Due.prints("SET 0 1; IFPOS 0; SET 0 -1; PRINT 0; END; IFPOS 0; PRINT 0; END", -1);
        Due.prints("IFPOS 0; END; PRINT 0", 0);
        Due.prints("SET 0 1; IFPOS 0; END; PRINT 0", 1);
        Due.prints("SET 3 1; IFPOS 0; PRINT 3; END; IFPOS 3; PRINT 3; END; IFPOS 7; PRINT 3; END", 1);
    }

    private static void loops() {
        for (int n = 1; n <= 5; n++) {
            int[] due = new int[n];
            for (int i = 0; i < n; i++) {
                due[i] = i + 1;
            }
            Due.prints("SET 1 1; LOOP " + n + "; ADD 0 0 1; PRINT 0; END", due);
            Due.prints("LOOP " + n + "; END; PRINT 0", 0);
        }
        // The number of a LOOP is a number, not a variable.
        Due.prints("SET 2 5; LOOP 2; SET 2 0; PRINT 2; END", 0, 0);
        Due.prints("SET 1 1; LOOP 2; ADD 0 0 1; END; LOOP 3; ADD 0 0 1; END; PRINT 0", 5);
    }

    private static void blocksInBlocks() {
        Due.prints("SET 1 1; LOOP 2; LOOP 3; LOOP 4; ADD 0 0 1; END; ADD 2 2 1; END; ADD 3 3 1; END;"
            + "PRINT 0; PRINT 2; PRINT 3", 24, 6, 2);
        Due.prints("SET 1 1; LOOP 2; LOOP 3; ADD 0 0 1; END; LOOP 4; ADD 2 2 1; END; END; PRINT 0; PRINT 2", 6, 8);
        Due.prints("LOOP 5; LOOP 5; LOOP 5; END; END; END; PRINT 0", 0);
        // Left out with all that is inside, up to its own END.
        Due.prints("SET 1 1; IFPOS 0; LOOP 2; IFPOS 1; PRINT 1; END; PRINT 1; END; PRINT 1; END; PRINT 0", 0);
        Due.prints("SET 1 1; LOOP 3; IFPOS 0; PRINT 0; END; ADD 0 0 1; END; PRINT 7", 1, 2, 0);
        Due.prints("SET 0 2; SET 1 1; LOOP 4; IFPOS 0; PRINT 0; SUB 0 0 1; END; END; PRINT 0", 2, 1, 0);
        Due.prints("SET 0 1; IFPOS 0; LOOP 2; IFPOS 0; PRINT 0; END; END; END", 1, 1);
    }

    private static void calls() {
        Due.prints("SET 0 4; CALL 0; PRINT 0; BODY 0; ADD 0 0 0", 8);
        Due.prints("SET 0 4; CALL 3; CALL 3; PRINT 1; BODY 3; ADD 1 1 0; PRINT 1", 4, 8, 8);
        Due.prints("CALL 1; PRINT 0; BODY 0; SET 0 10; BODY 1; SET 0 11; BODY 2; SET 0 12", 11);
        Due.prints("CALL 2; PRINT 0; BODY 2; SET 0 12; BODY 0; SET 0 10; BODY 1; SET 0 11", 12);
        Due.prints("PRINT 0; CALL 0; BODY 0; BODY 1; PRINT 0", 0);
        Due.prints("CALL 0; PRINT 0; BODY 0", 0);
        Due.prints("BODY 0; PRINT 0");
        Due.prints("PRINT 0; BODY 0; PRINT 0; BODY 1; PRINT 0", 0);
        Due.prints("SET 1 1; LOOP 3; CALL 0; END; BODY 0; ADD 0 0 1; PRINT 0", 1, 2, 3);
        Due.prints("SET 1 1; LOOP 2; CALL 0; END; PRINT 0; BODY 0; LOOP 3; ADD 0 0 1; END", 6);
        Due.prints("IFPOS 0; CALL 0; END; SET 0 1; IFPOS 0; CALL 0; END; BODY 0; PRINT 0", 1);
        Due.prints("SET 5 6; CALL 0; GET 0 1 5; PRINT 0; BODY 0; PUT 5 1 5", 6);
    }

    private static void callsInCalls() {
        String line = "SET 7 1; CALL 2; PRINT 7; BODY %d; %s BODY %d; %s BODY %d; %s BODY %d; %s";
        String last = "ADD 0 0 7; PRINT 0;";
        String third = "CALL 3; CALL 3; SET 3 33; PRINT 3;";
        String second = "CALL 1; SET 2 22; PRINT 2;";
        String first = "CALL 0; SET 1 11; PRINT 1; CALL 3;";
        int[] due = {1, 2, 33, 22, 11, 3, 1};
        Due.prints(String.format(line, 2, first, 0, second, 1, third, 3, last), due);
        Due.prints(String.format(line, 3, last, 1, third, 0, second, 2, first), due);
        Due.prints(String.format(line, 1, third, 2, first, 3, last, 0, second), due);
        // One subroutine from three places, each of which goes on after its own CALL.
        Due.prints("SET 7 1; CALL 0; PRINT 0; CALL 1; PRINT 0; CALL 2; PRINT 0; BODY 0; ADD 0 0 7;"
            + "BODY 1; CALL 0; CALL 0; BODY 2; CALL 1; CALL 0; CALL 1", 1, 3, 8);
        Due.prints("SET 7 1; LOOP 2; CALL 0; END; PRINT 0; BODY 0; LOOP 3; CALL 1; END; CALL 1;"
            + "BODY 1; LOOP 2; ADD 0 0 7; END", 16);
    }

    private static void everyRunBeginsAnew() {
        String text = "PRINT 0; GET 1 2 3; PRINT 1; SET 0 9; PUT 0 2 3; ADD 5 5 4; PRINT 5";
        SelfModArrayComp x = Due.program(text);
        x.start(4, 2);
        x.start(5, 40);
        for (int i = 0; i < 3; i++) {
            Due.printsNow(x, text, 0, 0, 42);
            Due.hasVariables("after " + text, x, 9, 0, 0, 0, 2, 42, 0, 0);
            Due.hasCells("after " + text, x, 2, 9, 0, 0, 0, 0, 0, 0, 0);
        }
        for (int i = 0; i < 7; i++) {
            x.retract();
        }
        Due.printsNow(x, "no statements");
        Due.hasVariables("after no statements", x, 0, 0, 0, 0, 2, 40, 0, 0);
        Due.hasCells("after no statements", x, 2, 0, 0, 0, 0, 0, 0, 0, 0);
    }

    private static void refusedRunChangesNothing() {
        String[] faults = {"LOOP 2", "BODY 0; BODY 0", "CALL 1", "BODY 2; CALL 2",
            "LOOP 5; LOOP 5; LOOP 5;" + Due.times(24, "PRINT 0;") + "END; END; END"};
        int[] answers = {SelfModArrayComp.MALFORMED, SelfModArrayComp.TWICE, SelfModArrayComp.MISSING,
            SelfModArrayComp.RECURSIVE, SelfModArrayComp.TOO_LONG};
        for (int i = 0; i < faults.length; i++) {
            SelfModArrayComp x = Due.program("SET 1 8; PUT 1 1 0; PRINT 1; PRINT 0; ");
            x.start(0, 3);
            Due.printsNow(x, "the program before the fault", 8, 3);
            x.start(0, 4);
            Due.feed(x, faults[i]);
            Due.is("run() with " + faults[i], x.run(), answers[i]);
            Due.is("run() with " + faults[i] + ", again", x.run(), answers[i]);
            Due.is("printed() with " + faults[i], x.printed(), 2);
            Due.is("output(0) with " + faults[i], x.output(0), 8);
            Due.is("output(1) with " + faults[i], x.output(1), 3);
            Due.hasVariables("with " + faults[i], x, 3, 8, 0, 0, 0, 0, 0, 0);
            Due.hasCells("with " + faults[i], x, 1, 0, 0, 0, 8, 0, 0, 0, 0);
            x.clear();
            Due.is("run() after a clear", x.run(), 0);
        }
    }

    // These take the most steps for their weight, and must still be passed to their end.
    private static void heaviestPrograms() {
        String empty = "LOOP 5; LOOP 5; LOOP 5; END; END; END;";
        Due.prints(Due.times(7, empty) + "SET 0 3; PRINT 0", 3);
        String deep = "LOOP 5; LOOP 5; LOOP 5;";
        Due.prints(deep + "CALL 0; END; END; END; SET 0 3; PRINT 0; BODY 0;" + Due.times(11, "LOOP 5; END;"), 3);
        Due.prints(deep + Due.times(22, "CALL 0;") + "END; END; END; PRINT 0; BODY 0", 0);
        SelfModArrayComp x = Due.program(deep + Due.times(23, "ADD 0 0 7;") + "END; END; END; PRINT 0");
        x.start(7, 1);
        Due.printsNow(x, "2875 additions", 2875);
    }
}
