/** Promise 1, and what is answered without a PROGRAM and without a RUN. */
public final class FaceTest {
    public static void main(String[] args) {
        Check check = new Check();
        OwnerHeap x = new OwnerHeap();
        check.due("NONE", OwnerHeap.NONE, -1);
        check.due("fault(0)", x.fault(0), -1);
        check.due("fault(1)", x.fault(1), -1);
        check.due("start", x.start(100, 10), false);
        check.due("run", x.run(1), -1);
        for (int what = -2; what < 12; what++) {
            boolean known = what >= 0 && what < 10;
            check.due("state(" + what + ")", x.state(what), known && what != 3 ? 0 : -1);
        }
        check.due("feed", x.feed(0, 0, 0, 0, 0), 20);
        check.end();
    }
}
