/** Promise 1. */
public final class NewObjectTest {
    public static void main(String[] args) {
        Due.isAsNew("of a new object", new SelfModArrayComp());
        startValuesAreZero();
        objectsShareNothing();
        Due.end();
    }

    private static void startValuesAreZero() {
        SelfModArrayComp x = new SelfModArrayComp();
        Due.is("run() of the empty program", x.run(), 0);
        Due.isAsNew("after a run of the empty program", x);
    }

    private static void objectsShareNothing() {
        SelfModArrayComp used = Due.program("SET 1 9; PUT 1 2 1; PRINT 1");
        used.start(0, 5);
        used.run();
        SelfModArrayComp x = new SelfModArrayComp();
        Due.isAsNew("of an object beside a used one", x);
        x.run();
        Due.hasVariables("of an object run beside a used one", x, 0, 0, 0, 0, 0, 0, 0, 0);
    }
}
