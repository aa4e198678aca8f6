/** Promise 1: a new object has no PROGRAM, no RUN, an empty tape. */
public final class FaceTest {
    private static final Check CHECK = new Check();

    private static void noProgram(OwnerHeap x) {
        for (int c = -1; c < 2; c++) {
            for (int what = -1; what < 7; what++) {
                CHECK.due("type(" + c + ", " + what + ")", x.type(c, what), -1);
            }
            CHECK.due("isIn(" + c + ", -1, -1)", x.isIn(c, -1, -1), false);
            CHECK.due("isIn(" + c + ", -2, -2)", x.isIn(c, -2, -2), false);
            CHECK.due("isIn(" + c + ", 0, 0)", x.isIn(c, 0, 0), false);
        }
        CHECK.due("fault(0)", x.fault(0), -1);
        CHECK.due("fault(1)", x.fault(1), -1);
        CHECK.due("start", x.start(100, 10), false);
    }

    private static void noRun(OwnerHeap x) {
        for (int what = -2; what < 12; what++) {
            boolean known = what >= 0 && what < 10;
            CHECK.due("state(" + what + ")", x.state(what), known && what != 3 ? 0 : -1);
        }
        CHECK.due("run", x.run(1), -1);
        CHECK.due("leaks", x.leaks(), 0);
        for (int i = -1; i < 2; i++) {
            CHECK.due("said(" + i + ")", x.said(i), 0);
            CHECK.due("leak(" + i + ")", x.leak(i), -1);
            CHECK.due("above(" + i + ")", x.above(i), -1);
            for (int k = -1; k < 4; k++) {
                CHECK.due("call(" + i + ", " + k + ")", x.call(i, k), -1);
                CHECK.due("variable(" + i + ", " + k + ")", x.variable(i, k), 0);
                CHECK.due("object(" + i + ", " + k + ")", x.object(i, k), -1);
                CHECK.due("owner(" + i + ", " + k + ")", x.owner(i, k), -1);
                CHECK.due("field(" + i + ", " + k + ")", x.field(i, k), 0);
                CHECK.due("isInside(" + i + ", " + k + ")", x.isInside(i, k), false);
                CHECK.due("way(" + i + ", " + k + ")", x.way(i, k), -1);
                CHECK.due("past(" + i + ", " + k + ")", x.past(i, k), -1);
            }
        }
    }

    public static void main(String[] args) {
        CHECK.due("NONE", OwnerHeap.NONE, -1);
        noProgram(new OwnerHeap());
        noRun(new OwnerHeap());
        OwnerHeap x = new OwnerHeap();
        CHECK.due("an empty tape has not one byte", x.load(1, false), -1);
        CHECK.due("but none", x.load(0, false), 2);
        CHECK.due("the first feed", new OwnerHeap().feed(0, 0, 0, 0, 0), 20);
        // a PROGRAM alone is no RUN
        noRun(CHECK.loaded("class A[o] { int v; } main { A[world] a = new A[world]; say a.v; }", false));
        CHECK.end();
    }
}
