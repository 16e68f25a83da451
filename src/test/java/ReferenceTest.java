import java.util.Map;
import java.util.TreeMap;

/** All promises at once: made-up runs of calls, each answer held against that of Reference. */
public final class ReferenceTest {
    private static final int MOST_CALLS = 512;
    private static final int[] ANSWERS = {SelfModArrayComp.OK, SelfModArrayComp.MALFORMED, SelfModArrayComp.TWICE,
        SelfModArrayComp.MISSING, SelfModArrayComp.RECURSIVE, SelfModArrayComp.TOO_LONG};
    private static final int NO_CALLS = -1;
    // How often the programs of wholeProgram had each fault: a test that seldom meets one proves little.
    private static final Map<Integer, Integer> SEEN = new TreeMap<>();

    private final Dice dice;
    private final String name;
    private final SelfModArrayComp program = new SelfModArrayComp();
    private final Reference reference = new Reference();
    private int calls = 0;

    private ReferenceTest(int seed) {
        dice = new Dice(seed);
        name = "seed " + seed + ", call ";
    }

    public static void main(String[] args) {
        for (int seed = 0; seed < 15000; seed++) {
            ReferenceTest test = new ReferenceTest(seed);
            if (seed % 3 == 0) {
                test.anyCalls();
            } else {
                test.wholeProgram();
            }
        }
        for (int answer : ANSWERS) {
            Due.is("check() answers " + answer + " often enough", SEEN.getOrDefault(answer, 0) >= 100, true);
        }
        Due.end();
    }

    private String call(String text) {
        calls++;
        return name + calls + ": " + text;
    }

    private void add(int kind, int a, int b, int c) {
        String text = call("add(" + kind + ", " + a + ", " + b + ", " + c + ")");
        Due.is(text, program.add(kind, a, b, c), reference.add(kind, a, b, c));
    }

    private void retract() {
        Due.is(call("retract()"), program.retract(), reference.retract());
    }

    private void start(int v, int value) {
        Due.is(call("start(" + v + ", " + value + ")"), program.start(v, value), reference.start(v, value));
    }

    private void check() {
        Due.is(call("check()"), program.check(), reference.check());
    }

    private void run() {
        Due.is(call("run()"), program.run(), reference.run());
    }

    private void clear() {
        call("clear()");
        program.clear();
        reference.clear();
    }

    private void lookAt(int a, int b) {
        Due.is(call("printed()"), program.printed(), reference.printed());
        Due.is(call("output(" + a + ")"), program.output(a), reference.output(a));
        Due.is(call("variable(" + a + ")"), program.variable(a), reference.variable(a));
        Due.is(call("cell(" + a + ", " + b + ")"), program.cell(a, b), reference.cell(a, b));
    }

    private void lookAtAll() {
        Due.is(call("printed()"), program.printed(), reference.printed());
        for (int k = -1; k <= 48; k++) {
            Due.is(call("output(" + k + ")"), program.output(k), reference.output(k));
        }
        for (int v = -1; v <= 8; v++) {
            Due.is(call("variable(" + v + ")"), program.variable(v), reference.variable(v));
        }
        for (int i = 0; i < 24; i++) {
            Due.is(call("cell(" + i / 8 + ", " + i % 8 + ")"), program.cell(i / 8, i % 8), reference.cell(i / 8, i % 8));
        }
    }

    private void anyCalls() {
        while (calls < MOST_CALLS - 100) {
            int a = dice.anyNumber();
            int b = dice.anyNumber();
            switch (dice.below(16)) {
                case 0, 1, 2 -> retract();
                case 3 -> start(a, b);
                case 4 -> check();
                case 5 -> run();
                case 6 -> lookAt(a, b);
                case 7 -> clearSometimes();
                default -> add(dice.anyNumber(), a, b, dice.anyNumber());
            }
        }
        lookAtAll();
    }

    private void clearSometimes() {
        if (dice.below(20) == 0) {
            clear();
        }
    }

    // A program that is mostly without fault, then small changes to it, with runs between.
    private void wholeProgram() {
        for (int v = 0; v < 8; v++) {
            start(v, dice.anyNumber());
        }
        feedPieces();
        SEEN.merge(reference.check(), 1, Integer::sum);
        check();
        run();
        lookAtAll();
        for (int i = dice.below(4); i > 0; i--) {
            retract();
            check();
            run();
            lookAt(dice.below(48), dice.below(8));
        }
        start(dice.below(8), dice.anyNumber());
        feedPiece(dice.below(4), dice.below(8));
        check();
        run();
        lookAtAll();
        if (dice.below(4) == 0) {
            clear();
            feedPieces();
            run();
            lookAtAll();
        }
    }

    private void feedPieces() {
        int bodies = dice.below(5);
        int length = (8 + dice.below(41 - bodies)) / (bodies + 1);
        int first = dice.below(4);
        // The order of the bodies is that of the calls, so that most programs are not recursive.
        feedPiece(bodies > 0 || seldom() ? first : NO_CALLS, length);
        for (int i = 0; i < bodies; i++) {
            add(SelfModArrayComp.BODY, seldom() ? dice.below(4) : first + i & 3, 0, 0);
            boolean last = i == bodies - 1;
            feedPiece(dice.below(6) == 0 ? dice.below(4) : last ? NO_CALLS : first + i + 1, length);
        }
    }

    private boolean seldom() {
        return dice.below(16) == 0;
    }

    private void feedPiece(int callee, int length) {
        int open = 0;
        for (int left = length; left > open; left--) {
            int kind = nextKind(callee, open, left);
            feedStatement(kind, callee);
            open += kind == SelfModArrayComp.END ? -1 : isBlock(kind) ? 1 : 0;
        }
        for (; open > 0; open--) {
            add(SelfModArrayComp.END, 0, 0, 0);
        }
    }

    private static boolean isBlock(int kind) {
        return kind == SelfModArrayComp.IFPOS || kind == SelfModArrayComp.LOOP;
    }

    private int nextKind(int callee, int open, int left) {
        int kind = dice.below(4) == 0 ? SelfModArrayComp.LOOP : dice.below(11);
        boolean misplaced = isBlock(kind) && (open >= 3 || left < open + 2) || kind == SelfModArrayComp.END && open <= 0;
        if (misplaced && !seldom() || kind == SelfModArrayComp.CALL && callee == NO_CALLS) {
            return SelfModArrayComp.PRINT;
        }
        return kind;
    }

    private void feedStatement(int kind, int callee) {
        int b = kind == SelfModArrayComp.SET ? dice.anyNumber() : dice.below(3);
        add(kind, firstNumber(kind, callee), b, dice.below(8));
    }

    private int firstNumber(int kind, int callee) {
        return switch (kind) {
            case SelfModArrayComp.LOOP -> dice.below(3) == 0 ? 5 : 1 + dice.below(5);
            case SelfModArrayComp.CALL -> callee & 3;
            default -> dice.below(8);
        };
    }
}
