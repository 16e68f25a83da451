/**
 * The boundaries that the document's terms name, but for weight and faults: a test for each sentence, on both sides
 * of its boundary. The sentence stands above its test.
 */
public final class TermsEdgesTest {
    private static final int MOST = Integer.MAX_VALUE;
    private static final int LEAST = Integer.MIN_VALUE;

    public static void main(String[] args) {
        the512thCallStillCounts();
        eightVariables();
        threeArraysOfEightCells();
        allValuesAreInts();
        additionWraps();
        subtractionWraps();
        multiplicationWraps();
        upTo48Statements();
        setTakesAnyNumber();
        getTakesTheLastThreeBits();
        putTakesTheLastThreeBits();
        ifposIsAboveZero();
        loopFrom1To5();
        endClosesTheLatest();
        callFrom0To3();
        callGoesOnAfterIt();
        printAddsToTheEnd();
        mainEndsBeforeTheFirstBody();
        aPieceEndsAtTheNextBodyOrTheProgramsEnd();
        eachPieceMayBeEmpty();
        variablesAndArraysAreShared();
        Due.end();
    }

    // "An object is used for at most 512 calls after it has been made; what later calls answer is free."
    private static void the512thCallStillCounts() {
        SelfModArrayComp x = Due.program(Due.times(47, "ADD 0 0 1;") + "PRINT 0");
        x.start(1, 2);
        for (int call = 50; call <= 510; call++) {
            Due.is("call " + call + ", run()", x.run(), 1);
        }
        Due.is("call 511, run()", x.run(), 1);
        Due.is("call 512, output(0)", x.output(0), 94);
    }

    // "There are 8 variables, 0 to 7"
    private static void eightVariables() {
        for (int v = 0; v < 8; v++) {
            SelfModArrayComp x = Due.prints("SET " + v + " 5");
            int[] due = new int[8];
            due[v] = 5;
            Due.hasVariables("after SET " + v + " 5", x, due);
        }
        for (int v : new int[] {-1, 8}) {
            SelfModArrayComp x = new SelfModArrayComp();
            Due.is("add of SET " + v + " 5", x.add(SelfModArrayComp.SET, v, 5, 0), SelfModArrayComp.BAD);
            Due.is("variable(" + v + ")", x.variable(v), 0);
        }
    }

    // "and three arrays, 0 to 2, of 8 cells each"
    private static void threeArraysOfEightCells() {
        for (int cell = 0; cell < 24; cell++) {
            SelfModArrayComp x = Due.prints("SET 0 5; SET 1 " + cell % 8 + "; PUT 0 " + cell / 8 + " 1");
            hasOneCell("after a PUT", x, cell / 8, cell % 8, 5);
        }
        for (int array : new int[] {-1, 3}) {
            SelfModArrayComp x = new SelfModArrayComp();
            Due.is("add of PUT 0 " + array + " 0", x.add(SelfModArrayComp.PUT, 0, array, 0), SelfModArrayComp.BAD);
            Due.is("add of GET 0 " + array + " 0", x.add(SelfModArrayComp.GET, 0, array, 0), SelfModArrayComp.BAD);
        }
    }

    // "all values are ints"
    private static void allValuesAreInts() {
        for (int value : new int[] {LEAST, LEAST + 1, -65536, -32769, 32768, 65536, MOST - 1, MOST}) {
            SelfModArrayComp x = Due.program("PUT 0 1 1; GET 2 1 1; PRINT 2");
            x.start(0, value);
            Due.printsNow(x, "PUT, GET and PRINT of " + value, value);
            Due.is("cell(1, 0) with " + value, x.cell(1, 0), value);
            Due.is("variable(2) with " + value, x.variable(2), value);
        }
    }

    private static void computes(String kind, int left, int right, int due) {
        Due.prints("SET 1 " + left + "; SET 2 " + right + ";" + kind + " 0 1 2; PRINT 0", due);
    }

    // "arithmetic wraps as in Java": ADD
    private static void additionWraps() {
        computes("ADD", MOST, 0, 2147483647);
        computes("ADD", MOST - 1, 1, 2147483647);
        computes("ADD", MOST, 1, -2147483648);
        computes("ADD", MOST, MOST, -2);
        computes("ADD", LEAST, 0, -2147483648);
        computes("ADD", LEAST + 1, -1, -2147483648);
        computes("ADD", LEAST, -1, 2147483647);
        computes("ADD", LEAST, LEAST, 0);
        computes("ADD", MOST, LEAST, -1);
    }

    // "arithmetic wraps as in Java": SUB
    private static void subtractionWraps() {
        computes("SUB", LEAST, 0, -2147483648);
        computes("SUB", LEAST + 1, 1, -2147483648);
        computes("SUB", LEAST, 1, 2147483647);
        computes("SUB", MOST, -1, -2147483648);
        computes("SUB", MOST - 1, -1, 2147483647);
        computes("SUB", 0, MOST, -2147483647);
        computes("SUB", 0, LEAST, -2147483648);
        computes("SUB", -1, LEAST, 2147483647);
        computes("SUB", LEAST, MOST, 1);
        computes("SUB", MOST, LEAST, -1);
    }

    // "arithmetic wraps as in Java": MUL
    private static void multiplicationWraps() {
        computes("MUL", 46340, 46340, 2147395600);
        computes("MUL", 46341, 46341, -2147479015);
        computes("MUL", -46340, 46341, -2147441940);
        computes("MUL", -46341, 46341, 2147479015);
        computes("MUL", 65536, 32767, 2147418112);
        computes("MUL", 65536, 32768, -2147483648);
        computes("MUL", -65536, 32768, -2147483648);
        computes("MUL", -65536, 32769, 2147418112);
        computes("MUL", 65536, 65536, 0);
        computes("MUL", MOST, 1, 2147483647);
        computes("MUL", MOST, -1, -2147483647);
        computes("MUL", MOST, 2, -2);
        computes("MUL", MOST, MOST, 1);
        computes("MUL", LEAST, 1, -2147483648);
        computes("MUL", LEAST, -1, -2147483648);
        computes("MUL", LEAST, 2, 0);
    }

    // "A program is a list of up to 48 statements, numbered from 0, fed one a call."
    private static void upTo48Statements() {
        Due.prints("SET 1 1;" + Due.times(45, "ADD 0 0 1;") + "PRINT 0", 45);
        Due.prints("SET 1 1;" + Due.times(46, "ADD 0 0 1;") + "PRINT 0", 46);
        SelfModArrayComp x = Due.prints("PRINT 1;" + Due.times(46, "ADD 0 0 1;") + "PRINT 1", 0, 0);
        Due.is("add number 49", x.add(SelfModArrayComp.PRINT, 1, 0, 0), SelfModArrayComp.FULL);
        Due.printsNow(x, "48 statements, after a refused one", 0, 0);
        Due.prints(Due.times(45, "SET 1 1;") + "LOOP 2; PRINT 1; END", 1, 1);
        Due.prints(Due.times(45, "SET 1 1;") + "CALL 3; PRINT 1; BODY 3", 1);
        Due.prints(Due.times(45, "SET 1 1;") + "CALL 3; BODY 3; PRINT 1", 1);
    }

    // "SET a b      variable a becomes the number b"
    private static void setTakesAnyNumber() {
        for (int b : new int[] {LEAST, -1, 0, 7, 8, 48, MOST}) {
            Due.prints("SET 0 3; SET 7 3; SET 0 " + b + "; PRINT 0; SET 7 " + b + "; PRINT 7", b, b);
        }
    }

    private static final int[][] INDEXES_AND_CELLS = {
        {0, 0}, {7, 7}, {8, 0}, {15, 7}, {16, 0}, {-1, 7}, {-7, 1}, {-8, 0}, {-9, 7}, {MOST, 7}, {MOST - 7, 0},
        {LEAST, 0}, {LEAST + 7, 7}, {256, 0}, {65535, 7}
    };

    // "GET a b c    variable a becomes cell number (variable c & 7) of array b"
    private static void getTakesTheLastThreeBits() {
        for (int[] pair : INDEXES_AND_CELLS) {
            for (int array = 0; array < 3; array++) {
                String get = "SET 2 " + pair[0] + "; GET 3 " + array + " 2; PRINT 3;";
                String put = "SET 0 66; SET 1 " + pair[1] + "; PUT 0 " + array + " 1;";
                Due.prints(put + get, 66);
                Due.prints("SET 0 66; SET 1 " + (pair[1] ^ 1) + "; PUT 0 " + array + " 1;" + get, 0);
                // The variable that names the cell may itself be the one that is set.
                String getItself = "SET 2 " + pair[0] + "; GET 2 " + array + " 2; PRINT 2;";
                SelfModArrayComp x = Due.prints(put + getItself, 66);
                hasOneCell("after GET with " + pair[0], x, array, pair[1], 66);
            }
        }
    }

    private static void hasOneCell(String when, SelfModArrayComp x, int array, int i, int value) {
        for (int cell = 0; cell < 24; cell++) {
            int due = cell == array * 8 + i ? value : 0;
            Due.is("cell(" + cell / 8 + ", " + cell % 8 + ") " + when, x.cell(cell / 8, cell % 8), due);
        }
    }

    // "PUT a b c    cell number (variable c & 7) of array b becomes variable a"
    private static void putTakesTheLastThreeBits() {
        for (int[] pair : INDEXES_AND_CELLS) {
            for (int array = 0; array < 3; array++) {
                String put = "SET 1 " + pair[0] + "; PUT 0 " + array + " 1;";
                SelfModArrayComp x = Due.prints("SET 0 66;" + put);
                hasOneCell("after " + put, x, array, pair[1], 66);
            }
        }
    }

    // "IFPOS a      the statements up to the matching END are passed if variable a > 0, else left out"
    private static void ifposIsAboveZero() {
        for (int value : new int[] {1, 2, 65536, MOST}) {
            Due.prints("SET 7 " + value + "; IFPOS 7; PRINT 7; END; PRINT 0", value, 0);
        }
        for (int value : new int[] {0, -1, -2, -65536, LEAST}) {
            Due.prints("SET 7 " + value + "; IFPOS 7; PRINT 7; END; PRINT 0", 0);
        }
        // Looked at once, at the IFPOS.
        Due.prints("SET 7 1; IFPOS 7; SET 7 0; PRINT 7; END; PRINT 7", 0, 0);
        Due.prints("SET 7 0; IFPOS 7; SET 7 1; PRINT 7; END; PRINT 7", 0);
        // Nothing inside, and nothing after.
        Due.prints("SET 7 1; PRINT 7; IFPOS 7; END", 1);
        Due.prints("SET 7 0; PRINT 7; IFPOS 7; END", 0);
        Due.prints("SET 7 0; CALL 0; PRINT 7; BODY 0; IFPOS 7; SET 7 3; END", 0);
        Due.prints("SET 7 1; CALL 0; PRINT 7; BODY 0; IFPOS 7; SET 7 3; END", 3);
    }

    // "LOOP a       the statements up to the matching END are passed a times (a from 1 to 5)"
    private static void loopFrom1To5() {
        Due.prints("SET 1 1; LOOP 1; ADD 0 0 1; PRINT 0; END; PRINT 1", 1, 1);
        Due.prints("SET 1 1; LOOP 2; ADD 0 0 1; PRINT 0; END; PRINT 1", 1, 2, 1);
        Due.prints("SET 1 1; LOOP 4; ADD 0 0 1; PRINT 0; END; PRINT 1", 1, 2, 3, 4, 1);
        Due.prints("SET 1 1; LOOP 5; ADD 0 0 1; PRINT 0; END; PRINT 1", 1, 2, 3, 4, 5, 1);
        Due.prints("PRINT 0; LOOP 1; END", 0);
        Due.prints("PRINT 0; LOOP 5; END", 0);
        // A LOOP that is come to again is passed all its times again.
        Due.prints("SET 1 1; LOOP 5; LOOP 5; LOOP 5; ADD 0 0 1; END; END; END; PRINT 0", 125);
        Due.prints("SET 1 1; LOOP 5; LOOP 1; LOOP 5; ADD 0 0 1; END; END; END; PRINT 0", 25);
        Due.prints("SET 1 1; LOOP 1; LOOP 1; LOOP 1; ADD 0 0 1; END; END; END; PRINT 0", 1);
        SelfModArrayComp x = new SelfModArrayComp();
        Due.is("add of LOOP 0", x.add(SelfModArrayComp.LOOP, 0, 0, 0), SelfModArrayComp.BAD);
        Due.is("add of LOOP 6", x.add(SelfModArrayComp.LOOP, 6, 0, 0), SelfModArrayComp.BAD);
    }

    // "END          closes the latest open IFPOS or LOOP"
    private static void endClosesTheLatest() {
        Due.prints("SET 1 1; LOOP 3; IFPOS 0; PRINT 7; END; PRINT 1; END", 1, 1, 1);
        Due.prints("SET 1 1; IFPOS 1; LOOP 3; PRINT 1; END; PRINT 0; END; PRINT 7", 1, 1, 1, 0, 0);
        Due.prints("SET 1 1; IFPOS 0; LOOP 3; PRINT 1; END; PRINT 1; END; PRINT 7", 0);
        Due.prints("SET 1 1; LOOP 2; LOOP 3; ADD 0 0 1; END; PRINT 0; END", 3, 6);
        Due.prints("SET 1 1; IFPOS 1; IFPOS 0; PRINT 7; END; PRINT 1; END; PRINT 0", 1, 0);
        Due.prints("SET 1 1; LOOP 2; LOOP 2; END; LOOP 2; PRINT 1; END; END", 1, 1, 1, 1);
    }

    // "CALL a       runs the body of subroutine a (0 to 3)" and "BODY a       begins the body of subroutine a (0 to 3)"
    private static void callFrom0To3() {
        String bodies = "BODY 0; PRINT 0; BODY 1; PRINT 1; BODY 2; PRINT 2; BODY 3; PRINT 3";
        String backwards = "BODY 3; PRINT 3; BODY 2; PRINT 2; BODY 1; PRINT 1; BODY 0; PRINT 0";
        String sets = "SET 0 10; SET 1 11; SET 2 12; SET 3 13;";
        for (int s = 0; s < 4; s++) {
            Due.prints(sets + "CALL " + s + ";" + bodies, 10 + s);
            Due.prints(sets + "CALL " + s + ";" + backwards, 10 + s);
        }
        SelfModArrayComp x = new SelfModArrayComp();
        for (int s : new int[] {-1, 4}) {
            Due.is("add of CALL " + s, x.add(SelfModArrayComp.CALL, s, 0, 0), SelfModArrayComp.BAD);
            Due.is("add of BODY " + s, x.add(SelfModArrayComp.BODY, s, 0, 0), SelfModArrayComp.BAD);
        }
    }

    // "then goes on after the CALL"
    private static void callGoesOnAfterIt() {
        String body = "BODY 0; ADD 0 0 1";
        Due.prints("SET 1 1; CALL 0; PRINT 0;" + body, 1);
        Due.prints("SET 1 1; CALL 0; CALL 0; PRINT 0;" + body, 2);
        // A CALL that is the last of the main piece, of a block and of a subroutine's piece.
        Due.prints("SET 1 1; PRINT 0; CALL 0;" + body, 0);
        Due.prints("SET 1 1; LOOP 5; CALL 0; END; PRINT 0;" + body, 5);
        Due.prints("SET 1 1; IFPOS 1; CALL 0; END; PRINT 0;" + body, 1);
        Due.prints("SET 1 1; CALL 2; PRINT 0;" + body + "; BODY 2; CALL 0", 1);
        Due.prints("SET 1 1; CALL 2; PRINT 0; BODY 2; CALL 0;" + body, 1);
        // The longest way of CALLs that there can be, with something after each.
        Due.prints("CALL 0; PRINT 0; BODY 0; CALL 1; SET 0 4; PRINT 0; BODY 1; CALL 2; SET 0 3; PRINT 0;"
            + "BODY 2; CALL 3; SET 0 2; PRINT 0; BODY 3; SET 0 1; PRINT 0", 1, 2, 3, 4, 4);
    }

    // "PRINT a      adds the value of variable a to the end of the output"
    private static void printAddsToTheEnd() {
        Due.prints("SET 0 5; SET 7 6");
        Due.prints("SET 0 5; SET 7 6; PRINT 0", 5);
        Due.prints("SET 0 5; SET 7 6; PRINT 0; PRINT 7", 5, 6);
        Due.prints("SET 0 5; SET 7 6; PRINT 7; PRINT 0; PRINT 7", 6, 5, 6);
    }

    // "The statements before the first BODY are the MAIN piece"
    private static void mainEndsBeforeTheFirstBody() {
        Due.prints("PRINT 0; PRINT 0", 0, 0);
        Due.prints("PRINT 0; BODY 0; PRINT 0", 0);
        Due.prints("BODY 0; PRINT 0; PRINT 0");
        Due.prints("PRINT 0; BODY 3; BODY 0; PRINT 0", 0);
    }

    // "the statements after a BODY, up to the next BODY or the end of the program, are the piece of that subroutine"
    private static void aPieceEndsAtTheNextBodyOrTheProgramsEnd() {
        Due.prints("CALL 0; BODY 0; PRINT 0; PRINT 0", 0, 0);
        Due.prints("CALL 0; BODY 0; PRINT 0; BODY 1; PRINT 0", 0);
        Due.prints("CALL 1; BODY 0; PRINT 0; BODY 1; PRINT 0; PRINT 0; PRINT 0", 0, 0, 0);
        Due.prints("CALL 0; BODY 1; PRINT 0; BODY 0; BODY 2; PRINT 0");
    }

    // "Each piece may be empty."
    private static void eachPieceMayBeEmpty() {
        Due.prints("");
        Due.prints("BODY 0; BODY 1; BODY 2; BODY 3");
        String calls = "CALL 0; CALL 1; CALL 2; CALL 3; SET 7 1; PRINT 7;";
        Due.prints(calls + "BODY 0; BODY 1; BODY 2; BODY 3", 1);
        for (int full = 0; full < 4; full++) {
            String bodies = "";
            for (int s = 0; s < 4; s++) {
                bodies += "BODY " + s + ";" + (s == full ? "PRINT 0;" : "");
            }
            Due.prints(calls + bodies, 0, 1);
        }
    }

    // "Variables and arrays are shared by all pieces."
    private static void variablesAndArraysAreShared() {
        SelfModArrayComp x = Due.prints("SET 0 3; PUT 0 0 0; CALL 0; GET 4 2 0; PRINT 4; PRINT 1;"
            + "BODY 0; GET 1 0 0; CALL 1; ADD 1 1 1; BODY 1; ADD 1 1 0; PUT 1 2 0", 6, 12);
        Due.hasVariables("after three pieces", x, 3, 12, 0, 0, 6, 0, 0, 0);
        Due.is("cell(0, 3) after three pieces", x.cell(0, 3), 3);
        Due.is("cell(2, 3) after three pieces", x.cell(2, 3), 6);
    }
}
