/** The example of README.md, call for call, with the answers that stand beside it there. */
public final class ReadmeTest {
    public static void main(String[] args) {
        SelfModArrayComp x = new SelfModArrayComp();
        x.start(1, 3);
        x.add(SelfModArrayComp.LOOP, 5, 0, 0);
        x.add(SelfModArrayComp.CALL, 0, 0, 0);
        x.add(SelfModArrayComp.END, 0, 0, 0);
        x.add(SelfModArrayComp.BODY, 0, 0, 0);
        x.add(SelfModArrayComp.ADD, 0, 0, 1);
        x.add(SelfModArrayComp.PUT, 0, 2, 0);
        Due.is("the last add", x.add(SelfModArrayComp.PRINT, 0, 0, 0), 7);
        Due.is("check()", x.check(), SelfModArrayComp.OK);
        Due.printsNow(x, "the example", 3, 6, 9, 12, 15);
        Due.is("variable(0)", x.variable(0), 15);
        Due.is("cell(2, 4)", x.cell(2, 4), 12);
        Due.end();
    }
}
