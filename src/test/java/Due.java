/** What every test uses: programs written as text, and answers held against those that are due. */
final class Due {
    private static final String[] KINDS = {
        "SET", "ADD", "SUB", "MUL", "GET", "PUT", "IFPOS", "LOOP", "END", "CALL", "PRINT", "BODY"
    };
    // A number that no kind takes as a, b or c, so that a program that looks at one it should not is seen.
    private static final int UNUSED = -77;
    private static int wrong = 0;

    private Due() {
    }

    static void is(String call, long got, long want) {
        if (got != want) {
            wrong++;
            System.out.println(call + " answered " + got + ", due is " + want);
        }
    }

    static void is(String call, boolean got, boolean want) {
        if (got != want) {
            wrong++;
            System.out.println(call + " answered " + got + ", due is " + want);
        }
    }

    static void end() {
        if (wrong != 0) {
            System.out.println(wrong + " answers are not as due");
            System.exit(1);
        }
    }

    /** A new object with the program of the text, statements parted by ';'. */
    static SelfModArrayComp program(String text) {
        SelfModArrayComp x = new SelfModArrayComp();
        feed(x, text);
        return x;
    }

    static void feed(SelfModArrayComp x, String text) {
        for (String statement : text.split(";")) {
            if (!statement.isBlank()) {
                int answer = feedOne(x, statement.trim().split(" +"));
                is("add of '" + statement.trim() + "' > 0", answer > 0, true);
            }
        }
    }

    private static int feedOne(SelfModArrayComp x, String[] words) {
        int[] numbers = {UNUSED, UNUSED, UNUSED};
        for (int i = 1; i < words.length; i++) {
            numbers[i - 1] = Integer.parseInt(words[i]);
        }
        return x.add(kind(words[0]), numbers[0], numbers[1], numbers[2]);
    }

    private static int kind(String name) {
        return java.util.Arrays.asList(KINDS).indexOf(name);
    }

    /** Takes statements away until so many are left, with a bound: a retract that takes none fails and does not hang. */
    static void retractTo(SelfModArrayComp x, int left) {
        int now = x.retract();
        for (int i = 0; i < 48 && now > left; i++) {
            x.check();
            now = x.retract();
        }
        is("retract() down to " + left, now, left);
    }

    static String times(int n, String text) {
        return text.repeat(n);
    }

    static void check(String text, int want) {
        is("check() of " + text, program(text).check(), want);
    }

    /** Runs the program of the text on a new object and holds the whole output against the due one. */
    static SelfModArrayComp prints(String text, int... want) {
        SelfModArrayComp x = program(text);
        printsNow(x, text, want);
        return x;
    }

    static void printsNow(SelfModArrayComp x, String text, int... want) {
        is("run() of " + text, x.run(), want.length);
        is("printed() after " + text, x.printed(), want.length);
        for (int k = 0; k < want.length && k < 48; k++) {
            is("output(" + k + ") after " + text, x.output(k), want[k]);
        }
        is("output(" + want.length + ") after " + text, x.output(want.length), 0);
    }

    /** All that can be seen of an object before any run, and after a clear. */
    static void isAsNew(String when, SelfModArrayComp x) {
        is("printed() " + when, x.printed(), 0);
        for (int k = -1; k <= 48; k++) {
            is("output(" + k + ") " + when, x.output(k), 0);
        }
        hasVariables(when, x, 0, 0, 0, 0, 0, 0, 0, 0);
        for (int array = 0; array < 3; array++) {
            hasCells(when, x, array, 0, 0, 0, 0, 0, 0, 0, 0);
        }
        is("check() " + when, x.check(), SelfModArrayComp.OK);
        is("retract() " + when, x.retract(), SelfModArrayComp.BAD);
    }

    static void hasVariables(String when, SelfModArrayComp x, int... want) {
        for (int v = 0; v < want.length; v++) {
            is("variable(" + v + ") " + when, x.variable(v), want[v]);
        }
    }

    static void hasCells(String when, SelfModArrayComp x, int array, int... want) {
        for (int i = 0; i < want.length; i++) {
            is("cell(" + array + ", " + i + ") " + when, x.cell(array, i), want[i]);
        }
    }
}
