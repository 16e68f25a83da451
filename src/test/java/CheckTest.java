/** Promise 5, with the faults and the weight that the terms explain. */
public final class CheckTest {
    private static final int OK = SelfModArrayComp.OK;
    private static final int MALFORMED = SelfModArrayComp.MALFORMED;
    private static final int TWICE = SelfModArrayComp.TWICE;
    private static final int MISSING = SelfModArrayComp.MISSING;
    private static final int RECURSIVE = SelfModArrayComp.RECURSIVE;
    private static final int TOO_LONG = SelfModArrayComp.TOO_LONG;

    // 29 statements that weigh 62 + 23 * 125 = 2937.
    private static final String HEAVY = "LOOP 5; LOOP 5; LOOP 5;" + Due.times(23, "PRINT 0;") + "END; END; END;";
    // 14 statements that weigh 62.
    private static final String MIDDLING = "LOOP 5;" + Due.times(12, "SET 0 1;") + "END;";
    // 30 statements that weigh 62 + 24 * 125 = 3062.
    private static final String LONG = "LOOP 5; LOOP 5; LOOP 5;" + Due.times(24, "PRINT 0;") + "END; END; END;";

    public static void main(String[] args) {
        wellFormed();
        malformed();
        twice();
        missing();
        recursive();
        tooLong();
        tooLongByCalls();
        theFirstFaultCounts();
        restsOnThePresentProgram();
        changesNothing();
        Due.end();
    }

    private static void wellFormed() {
        Due.check("", OK);
        Due.check("SET 0 1; ADD 0 1 2; SUB 0 1 2; MUL 0 1 2; GET 0 1 2; PUT 0 1 2; PRINT 0", OK);
        Due.check("LOOP 1; END", OK);
        Due.check("IFPOS 0; END; LOOP 1; END", OK);
        Due.check("LOOP 1; IFPOS 0; LOOP 2; END; END; END", OK);
        Due.check("LOOP 1; IFPOS 0; LOOP 2; END; LOOP 2; END; END; END", OK);
        Due.check("BODY 0", OK);
        Due.check("BODY 3; BODY 1; BODY 0; BODY 2", OK);
        Due.check("LOOP 1; LOOP 1; LOOP 1; CALL 0; END; END; END; BODY 0; LOOP 1; LOOP 1; LOOP 1; END; END; END", OK);
        Due.check("IFPOS 0; IFPOS 1; IFPOS 2; END; END; END; BODY 2; IFPOS 0; END", OK);
    }

    private static void malformed() {
        Due.check("END", MALFORMED);
        Due.check("LOOP 1", MALFORMED);
        Due.check("IFPOS 0", MALFORMED);
        Due.check("LOOP 1; END; END", MALFORMED);
        Due.check("END; LOOP 1", MALFORMED);
        Due.check("LOOP 1; IFPOS 0; END", MALFORMED);
        Due.check("LOOP 1; LOOP 1; LOOP 1; LOOP 1; END; END; END; END", MALFORMED);
        Due.check("IFPOS 0; IFPOS 0; IFPOS 0; IFPOS 0; END; END; END; END", MALFORMED);
        Due.check("LOOP 1; IFPOS 0; END; IFPOS 0; LOOP 1; IFPOS 1; END; END; END; END", MALFORMED);
        Due.check("LOOP 1; BODY 0; END", MALFORMED);
        Due.check("IFPOS 0; BODY 0", MALFORMED);
        Due.check("BODY 0; END", MALFORMED);
        Due.check("BODY 0; LOOP 1", MALFORMED);
        Due.check("BODY 0; LOOP 1; BODY 1; END", MALFORMED);
        Due.check("BODY 0; LOOP 1; BODY 1", MALFORMED);
        Due.check("BODY 0; LOOP 1; LOOP 1; LOOP 1; LOOP 1; END; END; END; END; BODY 1", MALFORMED);
    }

    private static void twice() {
        for (int s = 0; s < 4; s++) {
            Due.check("BODY " + s + "; BODY " + s, TWICE);
        }
        Due.check("PRINT 0; BODY 0; BODY 1; PRINT 0; BODY 2; BODY 1", TWICE);
        Due.check("BODY 3; BODY 0; BODY 1; BODY 2; BODY 3", TWICE);
    }

    private static void missing() {
        for (int s = 0; s < 4; s++) {
            Due.check("CALL " + s, MISSING);
            Due.check("CALL " + s + "; BODY " + s, OK);
            Due.check("CALL " + s + "; BODY " + (s + 1 & 3) + "; BODY " + (s + 2 & 3) + "; BODY " + (s + 3 & 3), MISSING);
        }
        Due.check("BODY 0; CALL 1", MISSING);
        Due.check("IFPOS 0; CALL 1; END", MISSING);
        Due.check("LOOP 2; CALL 0; END; CALL 1; BODY 0", MISSING);
    }

    private static void recursive() {
        for (int s = 0; s < 4; s++) {
            int t = s + 1 & 3;
            int u = s + 2 & 3;
            int w = s + 3 & 3;
            Due.check(calls(s, s), RECURSIVE);
            Due.check(calls(s, t) + calls(t, s), RECURSIVE);
            Due.check(calls(s, u) + calls(u, s), RECURSIVE);
            Due.check(calls(s, t) + calls(t, u) + calls(u, s), RECURSIVE);
            Due.check(calls(s, w) + calls(w, u) + calls(u, s), RECURSIVE);
            Due.check(calls(s, t) + calls(t, u) + calls(u, w) + calls(w, s), RECURSIVE);
            Due.check(calls(s, w) + calls(w, u) + calls(u, t) + calls(t, s), RECURSIVE);
            Due.check(calls(s, u) + calls(u, t) + calls(t, w) + calls(w, s), RECURSIVE);
            Due.check(calls(s, t) + calls(t, u) + calls(u, w) + "BODY " + w, OK);
            Due.check(calls(s, w) + calls(w, u) + calls(u, t) + "BODY " + t, OK);
            Due.check(calls(s, t) + calls(t, u) + calls(u, w) + calls(w, t), RECURSIVE);
            Due.check(calls(s, s) + "CALL " + t + "; BODY " + t, RECURSIVE);
            Due.check("BODY " + s + ";" + calls(t, s) + "CALL " + u + ";" + calls(u, t), RECURSIVE);
            Due.check("BODY " + s + ";" + calls(t, u) + "CALL " + s + ";" + calls(u, t), RECURSIVE);
        }
        Due.check("CALL 0; BODY 0; IFPOS 7; CALL 0; END", RECURSIVE);
        Due.check("SET 0 0; IFPOS 0; CALL 2; END; BODY 2; PRINT 0; CALL 2", RECURSIVE);
        Due.check("CALL 0; CALL 0; CALL 1; BODY 0; CALL 1; CALL 2; BODY 1; CALL 3; BODY 2; CALL 3; BODY 3", OK);
        Due.check("CALL 3; BODY 0; CALL 1; CALL 1; BODY 1; BODY 3; CALL 1; CALL 0", OK);
    }

    private static String calls(int from, int to) {
        return "BODY " + from + "; CALL " + to + ";";
    }

    private static void tooLong() {
        Due.check(HEAVY + "LOOP 5; LOOP 5; END; END", OK);
        Due.check(HEAVY + MIDDLING + "IFPOS 0; END", TOO_LONG);
        Due.check(LONG, TOO_LONG);
        for (String one : "SET 0 1;ADD 0 0 0;SUB 0 0 0;MUL 0 0 0;GET 0 0 0;PUT 0 0 0;PRINT 0".split(";")) {
            Due.check(HEAVY + MIDDLING + one, OK);
            Due.check(HEAVY + MIDDLING + one + ";" + one, TOO_LONG);
        }
        Due.check("BODY 0;" + LONG, OK);
        Due.check("CALL 1; BODY 0;" + LONG + "BODY 1", OK);
        Due.check("CALL 0; BODY 0;" + LONG, TOO_LONG);
    }

    private static void tooLongByCalls() {
        // A CALL weighs 1 and its piece: 62 + 125 * (1 + 22) is 2937.
        String called = "LOOP 5; LOOP 5; LOOP 5; CALL 2; END; END; END;";
        String body = "BODY 2;" + Due.times(22, "PRINT 0;");
        Due.check(called + MIDDLING + "SET 0 1;" + body, OK);
        Due.check(called + MIDDLING + "SET 0 1; SET 0 1;" + body, TOO_LONG);
        Due.check(called + MIDDLING + "CALL 1;" + body + "BODY 1", OK);
        Due.check(called + MIDDLING + "CALL 1;" + body + "BODY 1; PRINT 0", TOO_LONG);
        // What is left out in the run is weighed all the same: 1 + 2 + 1 + 2937, and 59 more.
        String leftOut = "SET 0 0; IFPOS 0; CALL 0; END; LOOP 5; LOOP 4; SET 1 1; SET 1 1; END; SET 1 1; END;";
        Due.check(leftOut + "SET 1 1; SET 1 1; BODY 0;" + HEAVY, OK);
        Due.check(leftOut + "SET 1 1; SET 1 1; SET 1 1; BODY 0;" + HEAVY, TOO_LONG);
        for (String order : "0123 3210 1302 2031".split(" ")) {
            Due.check(chain(order, 4), OK);
            Due.check(chain(order, 5), TOO_LONG);
        }
        hugeWeights();
    }

    // Main calls the first of the order, and each one the next, 5 times. The main piece weighs 2874 by that, 122
    // by the second LOOP, and n.
    private static String chain(String order, int n) {
        String loops = "LOOP 5; LOOP 5; PRINT 0; PRINT 0; PRINT 0; PRINT 0; END; PRINT 0; PRINT 0; END;";
        String main = "LOOP 4; CALL " + order.charAt(0) + "; END;" + loops + Due.times(n, "PRINT 0;");
        String bodies = "";
        for (int i = 0; i < 3; i++) {
            bodies += "BODY " + order.charAt(i) + "; LOOP 5; CALL " + order.charAt(i + 1) + "; END;";
        }
        return main + bodies + "BODY " + order.charAt(3) + ";" + Due.times(4, "PRINT 0;");
    }

    // Many of these weigh so much that an int would show them below 0.
    private static void hugeWeights() {
        String folded = "";
        for (int s = 0; s < 4; s++) {
            folded += "LOOP 5; LOOP 5; LOOP 5; CALL " + s + "; END; END; END; BODY " + s + ";";
        }
        for (int n = 0; n <= 14; n++) {
            Due.check(folded + Due.times(n, "PRINT 0;"), TOO_LONG);
            Due.check(folded + "LOOP 5;" + Due.times(n, "PRINT 0;") + "END", TOO_LONG);
        }
    }

    private static void theFirstFaultCounts() {
        String[] faults = {"BODY 0; END;", "BODY 1; BODY 1;", "BODY 2; CALL 0;", "BODY 3; CALL 3;"};
        int[] answers = {MALFORMED, TWICE, MISSING, RECURSIVE};
        Due.check("END;" + LONG, MALFORMED);
        Due.check(LONG + "BODY 1; BODY 1", TWICE);
        Due.check(LONG + "BODY 1; CALL 0", MISSING);
        Due.check(LONG + "BODY 3; CALL 3", RECURSIVE);
        Due.check("BODY 1; CALL 0; BODY 1; CALL 1; LOOP 1", MALFORMED);
        for (int i = 0; i < 4; i++) {
            Due.check(faults[i], answers[i]);
            for (int j = i + 1; j < 4; j++) {
                Due.check(faults[i] + faults[j], answers[i]);
                Due.check(faults[j] + faults[i], answers[i]);
            }
        }
    }

    private static void restsOnThePresentProgram() {
        for (int s = 0; s < 4; s++) {
            SelfModArrayComp x = Due.program(calls(s, s));
            Due.is("check() with a CALL in its own piece", x.check(), RECURSIVE);
            x.retract();
            Due.is("check() without the CALL", x.check(), OK);
            Due.feed(x, "BODY " + s);
            Due.is("check() with a second BODY", x.check(), TWICE);
            x.retract();
            x.retract();
            Due.feed(x, "CALL " + s);
            Due.is("check() without any BODY", x.check(), MISSING);
            Due.feed(x, "BODY " + s + ";" + LONG);
            Due.is("check() with a heavy BODY", x.check(), TOO_LONG);
            x.retract();
            Due.is("check() without its last END", x.check(), MALFORMED);
        }
    }

    private static void changesNothing() {
        SelfModArrayComp x = Due.program("ADD 0 0 1; PUT 0 0 0; PRINT 0");
        x.start(1, 3);
        Due.is("check() before any run", x.check(), OK);
        Due.is("variable(1) after a check", x.variable(1), 0);
        Due.printsNow(x, "a run after a check", 3);
        x.start(1, 4);
        x.check();
        Due.feed(x, "LOOP 3");
        Due.is("check() with an open LOOP", x.check(), MALFORMED);
        Due.is("check() with an open LOOP, again", x.check(), MALFORMED);
        Due.is("printed() after checks", x.printed(), 1);
        Due.is("output(0) after checks", x.output(0), 3);
        Due.hasVariables("after checks", x, 3, 3);
        Due.hasCells("after checks", x, 0, 0, 0, 0, 3);
        Due.is("retract() after checks", x.retract(), 3);
    }
}
