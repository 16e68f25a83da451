import java.util.List;

/**
 * The sentences about faults, a test for each, on both sides of its boundary. The sentence stands above its test.
 */
public final class FaultEdgesTest {
    private static final int OK = SelfModArrayComp.OK;
    private static final int MALFORMED = SelfModArrayComp.MALFORMED;
    private static final int TWICE = SelfModArrayComp.TWICE;
    private static final int MISSING = SelfModArrayComp.MISSING;
    private static final int RECURSIVE = SelfModArrayComp.RECURSIVE;
    private static final int TOO_LONG = SelfModArrayComp.TOO_LONG;
    private static final int PIECES = 5;
    private static final String[] OPENERS = {"LOOP 2;", "IFPOS 0;"};
    private static final String LONG = "LOOP 5; LOOP 5; LOOP 5;" + Due.times(24, "SET 0 1;") + "END; END; END;";

    public static void main(String[] args) {
        endWithNothingOpen();
        somethingOpenAtThePiecesEnd();
        moreThanThreeOpen();
        piecesAreReadAlone();
        theSameNumberTwice();
        callWithoutABody();
        backToItself();
        notBackToItself();
        callsThatAreNotReached();
        theFirstOfThese();
        noneOfThese();
        Due.end();
    }

    /** The text in one piece of five (the main one is number 0), the others empty or with a block of their own. */
    private static void checkInEachPiece(String text, int due) {
        for (int piece = 0; piece < PIECES; piece++) {
            for (String other : List.of("", "LOOP 1; IFPOS 0; END; END;")) {
                String program = "";
                for (int i = 0; i < PIECES; i++) {
                    program += (i > 0 ? "BODY " + (i - 1) + ";" : "") + (i == piece ? text : other);
                }
                Due.check(program, due);
            }
        }
    }

    // "MALFORMED: in some piece, read alone, some END has nothing open to close"
    private static void endWithNothingOpen() {
        checkInEachPiece("", OK);
        checkInEachPiece("END;", MALFORMED);
        checkInEachPiece("SET 0 1; END; SET 0 1;", MALFORMED);
        for (String opener : OPENERS) {
            checkInEachPiece(opener + "END;", OK);
            checkInEachPiece(opener + "END; END;", MALFORMED);
            checkInEachPiece("END;" + opener, MALFORMED);
            checkInEachPiece(opener + "END; END;" + opener, MALFORMED);
            checkInEachPiece(opener + "END;" + opener + "END;", OK);
            checkInEachPiece(opener + opener + opener + "END; END; END;", OK);
            checkInEachPiece(opener + opener + opener + "END; END; END; END;", MALFORMED);
        }
    }

    // "or something is open at the piece's end"
    private static void somethingOpenAtThePiecesEnd() {
        for (String opener : OPENERS) {
            checkInEachPiece(opener, MALFORMED);
            checkInEachPiece(opener + "SET 0 1;", MALFORMED);
            checkInEachPiece(opener + "SET 0 1; END;", OK);
            checkInEachPiece(opener + "END;" + opener, MALFORMED);
            checkInEachPiece(opener + opener + "END;", MALFORMED);
            checkInEachPiece(opener + opener + "END; END;", OK);
            checkInEachPiece(opener + opener + opener + "END; END;", MALFORMED);
        }
    }

    // "or at some place more than three are open"
    private static void moreThanThreeOpen() {
        for (int mix = 0; mix < 16; mix++) {
            String three = OPENERS[mix & 1] + OPENERS[mix >> 1 & 1] + OPENERS[mix >> 2 & 1];
            String fourth = OPENERS[mix >> 3];
            checkInEachPiece(three + "END; END; END;", OK);
            checkInEachPiece(three + "END;" + fourth + "END; END; END;", OK);
            checkInEachPiece(three + "END; END; END;" + fourth + "END;", OK);
            checkInEachPiece(three + fourth + "END; END; END; END;", MALFORMED);
            checkInEachPiece(three + "END;" + fourth + fourth + "END; END; END; END;", MALFORMED);
            checkInEachPiece(three + fourth + "END; END; END;", MALFORMED);
            checkInEachPiece(three + fourth, MALFORMED);
        }
    }

    // "in some piece, read alone"
    private static void piecesAreReadAlone() {
        String three = "LOOP 1; LOOP 1; LOOP 1;";
        String ends = "END; END; END;";
        Due.check(three + "CALL 0;" + ends + "BODY 0;" + three + ends, OK);
        Due.check(three + ends + "BODY 0;" + three + ends + "BODY 1;" + three + ends, OK);
        for (String opener : OPENERS) {
            Due.check(opener + "BODY 0; END;", MALFORMED);
            Due.check("CALL 0; END; BODY 0;" + opener, MALFORMED);
            Due.check("BODY 0;" + opener + "BODY 1; END;", MALFORMED);
            Due.check("BODY 0; END; BODY 1;" + opener, MALFORMED);
            Due.check(opener + "END; BODY 0;" + opener + "END; BODY 1;" + opener + "END;", OK);
        }
    }

    // "TWICE: two BODYs have the same number."
    private static void theSameNumberTwice() {
        for (int first = 0; first < 4; first++) {
            for (int second = 0; second < 4; second++) {
                int due = first == second ? TWICE : OK;
                Due.check("BODY " + first + "; BODY " + second, due);
                Due.check("CALL " + first + "; BODY " + first + "; SET 0 1; BODY " + second + "; SET 0 1", due);
                Due.check("BODY " + first + "; CALL " + second + "; BODY " + second, due);
            }
            Due.check("BODY 0; BODY 1; BODY 2; BODY 3", OK);
            Due.check("BODY 0; BODY 1; BODY 2; BODY 3; BODY " + first, TWICE);
            Due.check("BODY " + first + "; BODY 3; BODY 2; BODY 1; BODY 0", TWICE);
        }
    }

    // "MISSING: some CALL names a subroutine without a BODY."
    private static void callWithoutABody() {
        for (int s = 0; s < 4; s++) {
            String call = "CALL " + s + ";";
            String others = "";
            for (int other = 0; other < 4; other++) {
                others += other == s ? "" : "BODY " + other + ";";
            }
            Due.check(others, OK);
            Due.check(call, MISSING);
            Due.check(call + others, MISSING);
            Due.check(call + others + "BODY " + s, OK);
            Due.check(call + "BODY " + s, OK);
            Due.check(others + call, MISSING);
            Due.check(others + call + "BODY " + s, OK);
            Due.check("BODY " + s + ";" + others + call, OK);
            Due.check("LOOP 1;" + call + "END;" + others, MISSING);
            Due.check("IFPOS 0;" + call + "END;" + others, MISSING);
            Due.check("IFPOS 0;" + call + "END;" + others + "BODY " + s, OK);
        }
    }

    private static String body(int from, int to) {
        return "BODY " + from + "; CALL " + to + ";";
    }

    // "RECURSIVE: from some subroutine one can come, by CALLs in the pieces, from its piece back to itself."
    private static void backToItself() {
        for (int order = 0; order < 256; order++) {
            int s = order & 3;
            int t = order >> 2 & 3;
            int u = order >> 4 & 3;
            int w = order >> 6;
            boolean allOthers = s != t && s != u && s != w && t != u && t != w && u != w;
            if (allOthers) {
                Due.check(body(s, s), RECURSIVE);
                Due.check(body(s, t) + body(t, s), RECURSIVE);
                Due.check(body(s, t) + body(t, u) + body(u, s), RECURSIVE);
                Due.check(body(s, t) + body(t, u) + body(u, w) + body(w, s), RECURSIVE);
                Due.check(body(s, t) + body(t, u) + body(u, w) + body(w, t), RECURSIVE);
                Due.check(body(s, t) + body(t, u) + body(u, w) + body(w, u), RECURSIVE);
                Due.check(body(s, t) + body(t, u) + body(u, w) + body(w, w), RECURSIVE);
                Due.check(body(s, t) + body(t, u) + body(u, w) + "BODY " + w, OK);
                Due.check(body(w, s) + body(t, u) + body(s, t) + "BODY " + u, OK);
                // Of two CALLs in a piece, one leads back and one does not.
                String forked = body(s, t) + "CALL " + u + ";";
                Due.check(forked + body(t, w) + "BODY " + u + "; BODY " + w, OK);
                Due.check(forked + body(t, w) + body(u, s) + "BODY " + w, RECURSIVE);
                Due.check(forked + body(t, w) + "BODY " + u + ";" + body(w, s), RECURSIVE);
                Due.check("BODY " + w + ";" + body(u, w) + body(t, s) + forked, RECURSIVE);
                Due.check("BODY " + t + ";" + body(u, w) + body(w, t) + "CALL " + s + ";" + forked, RECURSIVE);
            }
        }
    }

    // The same: to come to a piece twice, or by two ways, is not to come back to it.
    private static void notBackToItself() {
        Due.check("CALL 0; CALL 0; BODY 0;", OK);
        Due.check("LOOP 5; CALL 0; END; BODY 0;", OK);
        Due.check("CALL 0; BODY 0; CALL 1; CALL 1; BODY 1;", OK);
        Due.check("CALL 0; BODY 0; CALL 1; CALL 2; BODY 1; CALL 3; BODY 2; CALL 3; BODY 3", OK);
        Due.check("CALL 0; BODY 0; CALL 1; CALL 2; BODY 1; CALL 3; BODY 2; CALL 3; BODY 3; CALL 0", RECURSIVE);
        Due.check("CALL 3; CALL 2; CALL 1; CALL 0; BODY 0; CALL 1; CALL 2; CALL 3; BODY 1; CALL 2; CALL 3;"
            + "BODY 2; CALL 3; BODY 3;", OK);
        Due.check("CALL 3; CALL 2; CALL 1; CALL 0; BODY 0; CALL 1; CALL 2; CALL 3; BODY 1; CALL 2; CALL 3;"
            + "BODY 2; CALL 3; BODY 3; CALL 1", RECURSIVE);
    }

    // "(whether they would be reached or not)"
    private static void callsThatAreNotReached() {
        Due.check("BODY 0; BODY 1; CALL 0;", OK);
        Due.check("BODY 0; CALL 1; BODY 1; CALL 0;", RECURSIVE);
        Due.check("CALL 0; BODY 0; IFPOS 0; CALL 0; END;", RECURSIVE);
        Due.check("CALL 0; BODY 0; IFPOS 0; CALL 1; END; BODY 1;", OK);
        Due.check("CALL 0; BODY 0; SET 0 0; IFPOS 0; CALL 1; END; BODY 1; IFPOS 0; CALL 0; END;", RECURSIVE);
        Due.check("IFPOS 0; CALL 2; END; BODY 2; CALL 2;", RECURSIVE);
        Due.check("CALL 1; BODY 1; BODY 3; CALL 3;", RECURSIVE);
    }

    // "A program's FAULT is the first of these that it has"
    private static void theFirstOfThese() {
        // Texts that begin in the main piece or with a BODY, each with one fault.
        String[] first = {"END;", "BODY 0; BODY 0;", "CALL 1;", "BODY 2; CALL 2;", LONG};
        String[] second = {"BODY 3; END;", "BODY 3; BODY 3;", "BODY 3; CALL 1;", "BODY 3; CALL 3;"};
        int[] due = {MALFORMED, TWICE, MISSING, RECURSIVE, TOO_LONG};
        for (int i = 0; i < first.length; i++) {
            Due.check(first[i], due[i]);
            Due.check(first[i] + "BODY 3; SET 0 1;", due[i]);
            for (int j = 0; j < second.length; j++) {
                Due.check(second[j], due[j]);
                Due.check(first[i] + second[j], due[Math.min(i, j)]);
            }
        }
        String[] all = {"BODY 3; CALL 3;", "BODY 1; CALL 0;", "BODY 1;", "END;"};
        int[] dueWithThem = {RECURSIVE, MISSING, TWICE, MALFORMED};
        String text = LONG;
        for (int i = 0; i < all.length; i++) {
            text += all[i];
            Due.check(text, dueWithThem[i]);
        }
    }

    // "OK if there is none of these."
    private static void noneOfThese() {
        Due.check("", OK);
        String good = atEveryBoundary(9, 16);
        SelfModArrayComp x = Due.program(good);
        Due.is("check() of " + good, x.check(), OK);
        Due.is("add number 49", x.add(SelfModArrayComp.SET, 0, 1, 0), SelfModArrayComp.FULL);
        Due.is("run() of " + good, x.run(), 0);
        // One small step over each boundary.
        Due.check(atEveryBoundary(9, 14).replace("CALL 0;", "LOOP 1; CALL 0; END;"), MALFORMED);
        Due.check(good.replace("BODY 3;", "BODY 2;"), TWICE);
        Due.check(good.replace("BODY 3;", "SET 0 1;"), MISSING);
        Due.check(good.replace("CALL 3;", "CALL 0;"), RECURSIVE);
        Due.check(atEveryBoundary(10, 15), TOO_LONG);
    }

    // On the good side of every boundary, with 9 and 16: 48 statements, three open, a BODY for each number, the
    // longest way of CALLs, and a weight of 2937 for the first block, 47 for the second, 16 for what comes then: 3000.
    private static String atEveryBoundary(int inside, int after) {
        String main = "LOOP 5; LOOP 5; LOOP 5; CALL 0; END; END; END; LOOP 5;" + Due.times(inside, "SET 0 1;") + "END;"
            + Due.times(after, "SET 0 1;");
        String bodies = "BODY 0; CALL 1; BODY 1; CALL 2; BODY 2; CALL 3; BODY 3;";
        return main + bodies + "LOOP 5; SET 0 1; SET 0 1; SET 0 1; END; SET 0 1; SET 0 1";
    }
}
