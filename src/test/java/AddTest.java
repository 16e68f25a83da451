/** Promise 2. */
public final class AddTest {
    private static final int NONE = 0;
    private static final int ANY = 1;
    private static final int VARIABLE = 2;
    private static final int ARRAY = 3;
    private static final int ROUNDS = 4;
    private static final int SUBROUTINE = 5;

    // What a, b and c are for each kind from 0.
    private static final int[][] OPERANDS = {
        {VARIABLE, ANY, NONE},
        {VARIABLE, VARIABLE, VARIABLE},
        {VARIABLE, VARIABLE, VARIABLE},
        {VARIABLE, VARIABLE, VARIABLE},
        {VARIABLE, ARRAY, VARIABLE},
        {VARIABLE, ARRAY, VARIABLE},
        {VARIABLE, NONE, NONE},
        {ROUNDS, NONE, NONE},
        {NONE, NONE, NONE},
        {SUBROUTINE, NONE, NONE},
        {VARIABLE, NONE, NONE},
        {SUBROUTINE, NONE, NONE},
    };
    private static final int[] TRIED = {
        Integer.MIN_VALUE, -9, -1, 0, 1, 2, 3, 4, 5, 6, 7, 8, 9, 256, Integer.MAX_VALUE
    };

    public static void main(String[] args) {
        everyKindWithEveryNumber();
        unknownKinds();
        numbersCountUpToFull();
        badAddsNothing();
        numbersAKindDoesNotHavePlayNoPart();
        Due.end();
    }

    private static boolean fits(int operand, int n) {
        return switch (operand) {
            case VARIABLE -> n >= 0 && n <= 7;
            case ARRAY -> n >= 0 && n <= 2;
            case ROUNDS -> n >= 1 && n <= 5;
            case SUBROUTINE -> n >= 0 && n <= 3;
            default -> true;
        };
    }

    private static void everyKindWithEveryNumber() {
        for (int kind = 0; kind < OPERANDS.length; kind++) {
            for (int a : TRIED) {
                for (int b : TRIED) {
                    for (int c : TRIED) {
                        int[] operands = OPERANDS[kind];
                        boolean good = fits(operands[0], a) && fits(operands[1], b) && fits(operands[2], c);
                        int got = new SelfModArrayComp().add(kind, a, b, c);
                        String call = "add(" + kind + ", " + a + ", " + b + ", " + c + ")";
                        Due.is(call, got, good ? 1 : SelfModArrayComp.BAD);
                    }
                }
            }
        }
    }

    private static void unknownKinds() {
        for (int kind : new int[] {Integer.MIN_VALUE, -2, -1, 12, 13, 256, Integer.MAX_VALUE}) {
            Due.is("add(" + kind + ", 1, 1, 1)", new SelfModArrayComp().add(kind, 1, 1, 1), SelfModArrayComp.BAD);
        }
    }

    private static void numbersCountUpToFull() {
        SelfModArrayComp x = new SelfModArrayComp();
        for (int n = 1; n <= 48; n++) {
            Due.is("add number " + n, x.add(SelfModArrayComp.PRINT, n & 7, 0, 0), n);
        }
        Due.is("add number 49", x.add(SelfModArrayComp.PRINT, 0, 0, 0), SelfModArrayComp.FULL);
        Due.is("add of an unknown kind when full", x.add(12, 0, 0, 0), SelfModArrayComp.FULL);
        Due.is("add of a wrong number when full", x.add(SelfModArrayComp.PRINT, 8, 0, 0), SelfModArrayComp.FULL);
        Due.is("run() when full", x.run(), 48);
        Due.is("retract() when full", x.retract(), 47);
        Due.is("add of a wrong number, one below full", x.add(SelfModArrayComp.PRINT, 8, 0, 0), SelfModArrayComp.BAD);
        Due.is("add one below full", x.add(SelfModArrayComp.PRINT, 0, 0, 0), 48);
    }

    private static void badAddsNothing() {
        SelfModArrayComp x = new SelfModArrayComp();
        x.add(SelfModArrayComp.PRINT, 0, 0, 0);
        x.add(SelfModArrayComp.PRINT, 8, 0, 0);
        x.add(SelfModArrayComp.LOOP, 0, 0, 0);
        x.add(12, 0, 0, 0);
        Due.is("run() after three bad adds", x.run(), 1);
        Due.is("add after three bad adds", x.add(SelfModArrayComp.PRINT, 0, 0, 0), 2);
    }

    private static void numbersAKindDoesNotHavePlayNoPart() {
        for (int unused : TRIED) {
            SelfModArrayComp x = new SelfModArrayComp();
            x.add(SelfModArrayComp.SET, 3, 41, unused);
            x.add(SelfModArrayComp.CALL, 1, unused, unused);
            x.add(SelfModArrayComp.BODY, 1, unused, unused);
            x.add(SelfModArrayComp.LOOP, 2, unused, unused);
            x.add(SelfModArrayComp.IFPOS, 3, unused, unused);
            x.add(SelfModArrayComp.PRINT, 3, unused, unused);
            x.add(SelfModArrayComp.END, unused, unused, unused);
            x.add(SelfModArrayComp.END, unused, unused, unused);
            Due.printsNow(x, "a program with " + unused + " for what is unused", 41, 41);
        }
    }
}
