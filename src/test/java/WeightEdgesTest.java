/**
 * The sentences about weight, a test for each: what is weighed is filled up to 3000 exactly, which is no fault, and
 * to 3001, which is one.
 */
public final class WeightEdgesTest {
    private static final int OK = SelfModArrayComp.OK;
    private static final int TOO_LONG = SelfModArrayComp.TOO_LONG;
    // What a filling weighs that has nothing in its blocks but the CALL.
    private static final int LEAST_FILLING = 437;

    public static void main(String[] args) {
        fillingsWeighWhatTheyShould();
        theSumOfTheStatements();
        loopsByTheirTimes();
        ifposWhetherPassedOrNot();
        callsWithThePiece();
        anyOtherWeighsOne();
        bodyIsInNoPiece();
        aboveTheIntegers();
        onlyTheMainPiece();
        above3000();
        Due.end();
    }

    /** Statements of the main piece, and the piece of subroutine 3 that they call, that weigh n from 437 to 3561. */
    private static String[] filling(int n) {
        int rest = n - LEAST_FILLING;
        int[] digits = new int[4];
        for (int i = 0; i < 4; i++) {
            digits[i] = rest % 5;
            rest /= 5;
        }
        String main = ones(digits[0]) + "LOOP 5;" + ones(digits[1]) + "LOOP 5;" + ones(digits[2])
            + "LOOP 5;" + ones(digits[3]) + "CALL 3; END; END; END;";
        return new String[] {main, "BODY 3; LOOP 5;" + ones(rest) + "END;"};
    }

    private static String ones(int n) {
        return Due.times(n, "SET 6 1;");
    }

    /** The part of the main piece, with the bodies that it calls (not subroutine 3), weighs so much and no other. */
    private static void weighs(int weight, String part, String bodies) {
        String[] upTo3000 = filling(3000 - weight);
        Due.check(part + upTo3000[0] + bodies + upTo3000[1], OK);
        Due.check(upTo3000[0] + part + upTo3000[1] + bodies, OK);
        String[] above = filling(3001 - weight);
        Due.check(part + above[0] + bodies + above[1], TOO_LONG);
        Due.check(above[0] + part + above[1] + bodies, TOO_LONG);
    }

    private static void weighs(int weight, String part) {
        weighs(weight, part, "");
    }

    private static void fillingsWeighWhatTheyShould() {
        weighs(0, "");
        for (int n = 0; n <= 16; n++) {
            weighs(n, ones(n));
        }
        // Without any CALL: 62 + 125 * 23 + 25 * 2 + 5 * 2 + 3 is 3000.
        String loops = "LOOP 5; LOOP 5; LOOP 5;" + ones(23) + "END; SET 0 1; SET 0 1; END; SET 0 1; SET 0 1; END;";
        Due.check(loops + ones(3), OK);
        Due.check(loops + ones(4), TOO_LONG);
    }

    // "The weight of a piece is the sum of the weights of its statements"
    private static void theSumOfTheStatements() {
        weighs(12, "LOOP 1; END; IFPOS 0; END; LOOP 2; SET 0 1; END; SET 0 1; LOOP 1; SET 0 1; END;");
        weighs(14, "SET 0 1; LOOP 5; END; SET 0 1; IFPOS 0; SET 0 1; END; CALL 1; LOOP 2; CALL 0; END; SET 0 1;",
            "BODY 0; BODY 1; SET 0 1;");
    }

    // "2 + a times the weight of what is inside for a LOOP a with its END"
    private static void loopsByTheirTimes() {
        for (int a = 1; a <= 5; a++) {
            String loop = "LOOP " + a + ";";
            weighs(2, loop + "END;");
            weighs(2 + a, loop + "SET 0 1; END;");
            weighs(2 + 2 * a, loop + "SET 0 1; SET 0 1; END;");
            weighs(2 + 2 * a, loop + "LOOP 1; END; END;");
            weighs(2 + 5 * a, loop + "SET 0 1; LOOP 2; SET 0 1; END; END;");
            weighs(3 + 2 * a, loop + "LOOP 5; END; END; SET 0 1;");
            weighs(2 + a * (2 + 5 * (2 + 3)), loop + "LOOP 5; LOOP 3; SET 0 1; END; END; END;");
            weighs(2 + a * (3 + 5 * (2 + 3) + 1), loop + "LOOP 5; LOOP 3; SET 0 1; END; END; SET 0 1; SET 0 1; END;");
        }
    }

    // "2 + the weight of what is inside for an IFPOS with its END"
    private static void ifposWhetherPassedOrNot() {
        weighs(2, "IFPOS 0; END;");
        weighs(3, "IFPOS 0; SET 0 1; END;");
        weighs(4, "SET 0 1; IFPOS 0; SET 0 1; END;");
        weighs(4, "IFPOS 5; SET 0 1; SET 0 1; END;");
        weighs(6, "IFPOS 0; IFPOS 1; IFPOS 2; END; END; END;");
        weighs(7, "IFPOS 0; LOOP 3; SET 0 1; END; END;");
        weighs(11, "LOOP 3; IFPOS 0; SET 0 1; END; END;");
        weighs(9, "LOOP 3; IFPOS 0; END; END; SET 0 1;");
    }

    // "1 + the weight of the subroutine's piece for a CALL"
    private static void callsWithThePiece() {
        weighs(1, "CALL 0;", "BODY 0;");
        weighs(2, "CALL 0;", "BODY 0; SET 0 1;");
        weighs(2, "CALL 0; CALL 0;", "BODY 0;");
        weighs(4, "CALL 0; CALL 0;", "BODY 0; SET 0 1;");
        weighs(5, "LOOP 3; CALL 1; END;", "BODY 1;");
        weighs(8, "LOOP 3; CALL 1; END;", "BODY 1; SET 0 1;");
        weighs(4, "IFPOS 0; CALL 2; END;", "BODY 2; SET 0 1;");
        weighs(3, "CALL 2;", "BODY 2; LOOP 5; END;");
        weighs(8, "CALL 2;", "BODY 2; LOOP 5; SET 0 1; END;");
        // CALLs in pieces, whatever their order in the program.
        weighs(3, "CALL 0;", "BODY 0; CALL 1; BODY 1; CALL 2; BODY 2;");
        weighs(4, "CALL 0;", "BODY 2; SET 0 1; BODY 1; CALL 2; BODY 0; CALL 1;");
        weighs(7, "CALL 2;", "BODY 0; SET 0 1; BODY 1; CALL 0; CALL 0; BODY 2; CALL 1; SET 0 1;");
        weighs(9, "CALL 1;", "BODY 1; CALL 2; CALL 0; BODY 0; SET 0 1; CALL 2; BODY 2; SET 0 1; SET 0 1;");
    }

    // "1 for any other"
    private static void anyOtherWeighsOne() {
        String[] others = {
            "SET 0 1;", "ADD 0 0 0;", "SUB 0 0 0;", "MUL 0 0 0;", "GET 0 0 0;", "PUT 0 0 0;", "PRINT 0;"
        };
        for (String one : others) {
            weighs(1, one);
            weighs(2, one + one);
            weighs(7, "LOOP 5;" + one + "END;");
        }
        weighs(7, String.join("", others));
    }

    // "The statements before the first BODY are the MAIN piece; the statements after a BODY, up to the next BODY or the
    // end of the program, are the piece of that subroutine.": a BODY itself is in no piece.
    private static void bodyIsInNoPiece() {
        weighs(0, "", "BODY 0; BODY 1; BODY 2;");
        weighs(0, "", "BODY 1; SET 0 1; BODY 0; LOOP 5; SET 0 1; END;");
        weighs(3, "CALL 0; CALL 1; CALL 2;", "BODY 0; BODY 1; BODY 2;");
    }

    // "(For programs that come to this test, every weight fits in a long.)"
    private static void aboveTheIntegers() {
        // 4294967866, 4294969520, 4294968138 and 17179870562: the last 32 bits of each are below 3000.
        Due.check(folded("433 444 344 535", "2343", 6), TOO_LONG);
        Due.check(folded("344 344 344 535", "3243", 6), TOO_LONG);
        Due.check(folded("443 434 344 535", "2343", 6), TOO_LONG);
        Due.check(folded("555 553 345 453", "3333", 5), TOO_LONG);
        // 2077164187 and 2321304812, which stand on the two sides of the greatest int.
        Due.check(folded("555 555 555 555", "1111", 7), TOO_LONG);
        Due.check(folded("555 555 555 555", "1111", 8), TOO_LONG);
    }

    // Each piece has three LOOPs of these times, the first piece is the main one, with so many CALLs of the next piece.
    private static String folded(String times, String calls, int ones) {
        String text = "";
        String[] loops = times.split(" ");
        for (int s = 0; s < 4; s++) {
            for (char a : loops[s].toCharArray()) {
                text += "LOOP " + a + ";";
            }
            text += Due.times(calls.charAt(s) - '0', "CALL " + s + ";") + "END; END; END; BODY " + s + ";";
        }
        return text + ones(ones);
    }

    // "TOO_LONG: the weight of the main piece is above 3000."
    private static void onlyTheMainPiece() {
        String[] heavy = filling(3001);
        Due.check(heavy[0] + heavy[1], TOO_LONG);
        Due.check("BODY 0;" + heavy[0] + heavy[1], OK);
        Due.check("CALL 1; BODY 0;" + heavy[0] + heavy[1] + "BODY 1;", OK);
        Due.check("CALL 0; BODY 0;" + heavy[0] + heavy[1], TOO_LONG);
        String[] whole = filling(2999);
        Due.check("CALL 0; BODY 0;" + whole[0] + whole[1], OK);
        Due.check("CALL 0; BODY 0;" + whole[0] + "SET 0 1;" + whole[1], TOO_LONG);
    }

    // "TOO_LONG: the weight of the main piece is above 3000. OK if there is none of these."
    private static void above3000() {
        for (int n : new int[] {LEAST_FILLING, 1000, 2047, 2048, 2998, 2999, 3000}) {
            String[] text = filling(n);
            Due.check(text[0] + text[1], OK);
        }
        for (int n : new int[] {3001, 3002, 3003, 3100, 3561}) {
            String[] text = filling(n);
            Due.check(text[0] + text[1], TOO_LONG);
        }
        String[] most = filling(3000);
        Due.is("run() of weight 3000", Due.program(most[0] + "PRINT 6;" + most[1]).run(), TOO_LONG);
        String[] below = filling(2999);
        SelfModArrayComp x = Due.prints(below[0] + "PRINT 6;" + below[1], 1);
        Due.is("check() of weight 3000", x.check(), OK);
    }
}
