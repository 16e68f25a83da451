/** Rule 7 of LANGUAGE.md: no call may throw or fail to end, whatever its arguments and the state. */
public final class AnyArgumentsTest {
    public static void main(String[] args) {
        for (int seed = 0; seed < 4000; seed++) {
            Dice dice = new Dice(seed);
            SelfModArrayComp x = new SelfModArrayComp();
            // Some objects are used beyond their 512 calls: then the answers are free, but there must be one.
            int calls = seed % 10 == 0 ? 2000 : 512;
            for (int call = 0; call < calls; call++) {
                callSomething(x, dice, seed, call);
            }
        }
        Due.end();
    }

    private static void callSomething(SelfModArrayComp x, Dice dice, int seed, int call) {
        try {
            callOne(x, dice);
        } catch (RuntimeException | StackOverflowError e) {
            Due.is("call " + call + " of seed " + seed + " threw " + e, true, false);
        }
    }

    private static void callOne(SelfModArrayComp x, Dice dice) {
        int a = dice.anyNumber();
        int b = dice.anyNumber();
        int c = dice.anyNumber();
        switch (dice.below(20)) {
            case 0 -> x.retract();
            case 1 -> x.start(a, b);
            case 2 -> x.check();
            case 3 -> x.run();
            case 4 -> x.printed();
            case 5 -> x.output(a);
            case 6 -> x.variable(a);
            case 7 -> x.cell(a, b);
            case 8 -> clearSometimes(x, dice);
            case 9, 10, 11 -> x.add(SelfModArrayComp.END, a, b, c);
            default -> x.add(dice.anyNumber(), a, b, c);
        }
    }

    private static void clearSometimes(SelfModArrayComp x, Dice dice) {
        if (dice.below(8) == 0) {
            x.clear();
        }
    }
}
