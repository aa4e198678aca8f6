import java.util.ArrayList;
import java.util.List;

/** "A call that is refused changes nothing": each of them in each state, with a look ahead of it and behind it. */
public final class RefusedTest {
    private static final Check CHECK = new Check();
    private static final int LEAST = Integer.MIN_VALUE;
    private static final int MOST = Integer.MAX_VALUE;
    /** Behind its 14th STEP there are three OBJECTS, two CALLS, a number said and a LEAK. */
    private static final String TEXT =
        "class R[o] { int v; } class W[o] { R[this] r; K[world,this] k; int go(int a, int b) { this.r = new R[this]; "
        + "this.k = new K[world,this]; this.k.it = this.r; say a / b; return 5; } } class K[o,p] { R[p] it; } "
        + "main { int a = 3; say a; W[world] w = new W[world]; w.go(8, ZERO); return 6; }";

    private static String text(int divisor) {
        return TEXT.replace("ZERO", "" + divisor);
    }

    private static OwnerHeap begun(int divisor, int steps) {
        OwnerHeap x = CHECK.loaded(text(divisor), true);
        CHECK.due("start", x.start(100, 4), true);
        if (steps > 0) {
            x.run(steps);
        }
        return x;
    }

    private static void refusedLoads(OwnerHeap x, int taped) {
        for (boolean trust : new boolean[] {false, true}) {
            CHECK.due("load(-1)", x.load(-1, trust), -1);
            CHECK.due("load(one more than there are)", x.load(taped + 1, trust), -1);
            CHECK.due("load(the least int)", x.load(LEAST, trust), -1);
            CHECK.due("load(the greatest int)", x.load(MOST, trust), -1);
        }
    }

    private static void refusedStarts(OwnerHeap x) {
        int[][] wrong = {{7, 1}, {4001, 1}, {8, 0}, {8, 41}, {7, 41}, {4001, 0}, {-8, 1}, {8, -1}, {0, 0}, {LEAST, 1}, {MOST, 1},
            {8, LEAST}, {8, MOST}};
        for (int[] w : wrong) {
            CHECK.due("start(" + w[0] + ", " + w[1] + ")", x.start(w[0], w[1]), false);
        }
    }

    private static void refusedRuns(OwnerHeap x) {
        for (int n : new int[] {0, -1, 2001, LEAST, MOST}) {
            CHECK.due("run(" + n + ")", x.run(n), -1);
        }
    }

    private static void noneGoesOn(OwnerHeap x) {
        for (int n : new int[] {1, 2, 2000}) {
            CHECK.due("run(" + n + ")", x.run(n), -1);
        }
    }

    private static void withoutAProgram() {
        OwnerHeap x = new OwnerHeap();
        CHECK.due("feed", x.feed(0x6d61696e, 0x207b7d20, 0x20202020, 0x20202020, 0x20202020), 20);
        Look look = new Look(x);
        refusedLoads(x, 20);
        refusedStarts(x);
        CHECK.due("start(8, 1)", x.start(8, 1), false);
        CHECK.due("start(4000, 40)", x.start(4000, 40), false);
        refusedRuns(x);
        noneGoesOn(x);
        look.stays(CHECK, "refused calls without a PROGRAM", x);
        CHECK.due("what is on the tape is still there", x.load(20, false), 0);
    }

    private static void withoutARun() {
        OwnerHeap x = CHECK.loaded(text(2), true);
        Look look = new Look(x);
        CHECK.due("it tells of something", look.tellsOfSomething() > 10, true);
        refusedLoads(x, 0);
        refusedStarts(x);
        refusedRuns(x);
        noneGoesOn(x);
        look.stays(CHECK, "refused calls without a RUN", x);
        CHECK.due("start", x.start(100, 4), true);
        CHECK.due("run", x.run(2000), 2);
    }

    private static void withARun() {
        OwnerHeap x = begun(2, 14);
        CHECK.due("it goes on", x.state(0), 1);
        CHECK.due("CALLS", x.state(7), 2);
        CHECK.due("LEAKS", x.leaks(), 1);
        Look look = new Look(x);
        CHECK.due("it tells of much", look.tellsOfSomething() > 60, true);
        refusedLoads(x, 0);
        refusedStarts(x);
        refusedRuns(x);
        look.stays(CHECK, "refused calls in a RUN", x);
        CHECK.due("to its end", x.run(2000), 2);
        CHECK.states(x, "as without them", 2, 6, 0, -1, 17, 14, 3, 0, 2, 2);
    }

    private static void behindTheEnd() {
        OwnerHeap x = begun(2, 2000);
        Look look = new Look(x);
        CHECK.due("it tells of something", look.tellsOfSomething() > 40, true);
        refusedLoads(x, 0);
        refusedStarts(x);
        refusedRuns(x);
        noneGoesOn(x);
        look.stays(CHECK, "refused calls behind the end", x);
    }

    private static void behindATrouble() {
        OwnerHeap x = begun(0, 2000);
        CHECK.due("a TROUBLE", x.state(0), 3);
        Look look = new Look(x);
        CHECK.due("it tells of something", look.tellsOfSomething() > 40, true);
        refusedLoads(x, 0);
        refusedStarts(x);
        refusedRuns(x);
        noneGoesOn(x);
        look.stays(CHECK, "refused calls behind a TROUBLE", x);
    }

    /** "else its FAULT, and PROGRAM and RUN stay": a FAULT of each number, in a RUN that then goes on. */
    private static void faultsLeaveAll() {
        String[] bad = {
            "1$", "2;", "3main{{{{{{{{{{{{{", "4class A[o]{}class A[o]{}main{}", "5class A[o]{X[o]a;}main{}",
            "6class A[o]{A[o,o]a;}main{}", "7class R[o]{int f(){int a=null;}}main{}", "8class A[o,p]{A[p,o]a;}main{}",
            "9class A[o]{int f(){}}class B[o]is A[o]{A[o]f(){}}main{}",
            "10class A[o]{A[this]h;}main{A[world]a=null;a.h=null;}", "11class A[o]is A[world]{}main{}",
        };
        for (String numbered : bad) {
            int digits = numbered.startsWith("10") || numbered.startsWith("11") ? 2 : 1;
            int number = Integer.parseInt(numbered.substring(0, digits));
            OwnerHeap x = begun(2, 14);
            Look look = new Look(x);
            CHECK.due("load of " + numbered, Check.load(x, numbered.substring(digits), false), number);
            CHECK.due("fault(0) of " + numbered, x.fault(0), number);
            CHECK.due("the tape is empty", x.load(1, false), -1);
            look.staysButFault(CHECK, numbered, x);
            CHECK.due("to its end behind " + numbered, x.run(2000), 2);
            CHECK.states(x, "as without " + numbered, 2, 6, 0, -1, 17, 14, 3, 0, 2, 2);
        }
    }

    /** Questions change nothing, those with wrong numbers neither. */
    private static void questionsChangeNothing() {
        OwnerHeap x = begun(2, 14);
        Look look = new Look(x);
        for (int wrong : new int[] {-3, 17, LEAST, MOST}) {
            List<Integer> got = new ArrayList<>(List.of(x.fault(wrong), x.type(wrong, 0), x.type(0, wrong), x.state(wrong),
                x.call(wrong, 0), x.call(0, wrong), x.object(wrong, 0), x.object(1, wrong), x.owner(wrong, 0), x.owner(1, wrong)));
            got.addAll(List.of(x.way(wrong, 1), x.way(1, wrong), x.above(wrong), x.leak(wrong), x.past(wrong, 0), x.past(2, wrong)));
            for (int k = 0; k < got.size(); k++) {
                CHECK.due("question " + k + " with " + wrong, got.get(k), -1);
            }
            got = List.of(x.said(wrong), x.variable(wrong, 0), x.variable(0, wrong), x.field(wrong, 0), x.field(1, wrong));
            for (int k = 0; k < got.size(); k++) {
                CHECK.due("question " + k + " with " + wrong + " (0)", got.get(k), 0);
            }
            CHECK.due("isIn(" + wrong + ", 0, 0)", x.isIn(wrong, 0, 0), false);
            CHECK.due("isIn(0, " + wrong + ", 0)", x.isIn(0, wrong, 0), false);
            CHECK.due("isIn(0, 0, " + wrong + ")", x.isIn(0, 0, wrong), false);
            CHECK.due("isInside(" + wrong + ", 0)", x.isInside(wrong, 0), false);
            CHECK.due("isInside(1, " + wrong + ")", x.isInside(1, wrong), false);
        }
        look.stays(CHECK, "questions", x);
    }

    /** "NONE if there would be more than 3,000": the full tape stays as it is. */
    private static void fullTape() {
        OwnerHeap x = CHECK.loaded(text(2), true);
        x.start(100, 4);
        x.run(14);
        String last = "main { say 7;      }";
        Check.feed(x, " ".repeat(2980) + last);
        CHECK.due("one feed more", x.feed(LEAST, MOST, -1, 0, 1), -1);
        CHECK.due("and one more", x.feed(0x24242424, 0x24242424, 0x24242424, 0x24242424, 0x24242424), -1);
        CHECK.due("the RUN is as it was", x.state(4), 14);
        CHECK.due("load of one more", x.load(3001, false), -1);
        CHECK.due("all bytes are as they were", x.load(3000, false), 0);
        CHECK.due("start", x.start(8, 1), true);
        CHECK.due("run", x.run(1), 2);
        CHECK.due("said", x.said(0), 7);
    }

    /** "All memory is the class's own": two objects know nothing of one another. */
    private static void twoObjects() {
        OwnerHeap x = begun(2, 14);
        Look look = new Look(x);
        OwnerHeap y = new OwnerHeap();
        Look empty = new Look(new OwnerHeap());
        empty.stays(CHECK, "another object's RUN", y);
        y.feed(1, 2, 3, 4, 5);
        CHECK.due("a tape of its own", x.load(1, false), -1);
        CHECK.due("load of the other one", y.load(20, false), 1);
        CHECK.due("load of the other one", Check.load(y, "class Z[o,p] { } main { say 1; }", false), 0);
        y.start(8, 1);
        y.run(1);
        look.stays(CHECK, "another object's calls", x);
    }

    public static void main(String[] args) {
        withoutAProgram();
        withoutARun();
        withARun();
        behindTheEnd();
        behindATrouble();
        faultsLeaveAll();
        questionsChangeNothing();
        fullTape();
        twoObjects();
        CHECK.end();
    }
}
