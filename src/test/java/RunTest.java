/** Promises 7 to 12: RUNS, their STEPS, TROUBLES, numbers, CALLS and VARIABLES. */
public final class RunTest {
    private static final Check CHECK = new Check();

    private static OwnerHeap started(String text, int words, int calls) {
        return CHECK.started(text, words, calls);
    }

    private static void states(OwnerHeap x, String what, int... due) {
        CHECK.states(x, what, due);
    }

    private static void starts() {
        OwnerHeap x = CHECK.loaded("main { say 1; }", false);
        CHECK.due("7 WORDS", x.start(7, 1), false);
        CHECK.due("4001 WORDS", x.start(4001, 1), false);
        CHECK.due("0 CALLS", x.start(8, 0), false);
        CHECK.due("41 CALLS", x.start(8, 41), false);
        states(x, "none begun", 0, 0, 0, -1, 0, 0, 0, 0, 0, 0);
        CHECK.due("the least", x.start(8, 1), true);
        states(x, "begun", 1, 0, 0, -1, 0, 0, 0, 1, 1, 0);
        CHECK.due("run(0)", x.run(0), -1);
        CHECK.due("run(-1)", x.run(-1), -1);
        CHECK.due("run(2001)", x.run(2001), -1);
        states(x, "nothing happened", 1, 0, 0, -1, 0, 0, 0, 1, 1, 0);
        CHECK.due("run(1)", x.run(1), 2);
        states(x, "ended", 2, 0, 0, -1, 1, 0, 0, 0, 1, 1);
        CHECK.due("run behind the end", x.run(1), -1);
        CHECK.due("refused", x.start(9, 0), false);
        states(x, "as it was", 2, 0, 0, -1, 1, 0, 0, 0, 1, 1);
        CHECK.due("said", x.said(0), 1);
        CHECK.due("the most", x.start(4000, 40), true);
        states(x, "begun anew", 1, 0, 0, -1, 0, 0, 0, 1, 1, 0);
        CHECK.due("said nothing", x.said(0), 0);
        CHECK.due("state(-1)", x.state(-1), -1);
        CHECK.due("state(10)", x.state(10), -1);
    }

    /** A main without STATEMENTS: start() only begins its RUN, run() brings it to its end. */
    private static void endsWithoutSteps() {
        for (String text : new String[] {"main {}", "main { { } { { } } }"}) {
            OwnerHeap x = started(text, 25, 1);
            states(x, "begun, " + text, 1, 0, 0, -1, 0, 0, 0, 1, 1, 0);
            CHECK.due("main's call", x.call(0, 0), -1);
            CHECK.due("main's OBJECT", x.call(0, 2), 0);
            CHECK.due("no STATEMENT began", x.call(0, 3), -1);
            CHECK.due("run(0)", x.run(0), -1);
            CHECK.due("run(2001)", x.run(2001), -1);
            states(x, "nothing happened, " + text, 1, 0, 0, -1, 0, 0, 0, 1, 1, 0);
            CHECK.due("run(1)", x.run(1), 2);
            states(x, "ended, " + text, 2, 0, 0, -1, 0, 0, 0, 0, 1, 0);
            CHECK.due("no CALL is open", x.call(0, 2), -1);
            CHECK.due("none goes on", x.run(1), -1);
            CHECK.due("start anew", x.start(8, 40), true);
            CHECK.due("run(2000)", x.run(2000), 2);
            CHECK.due("still no STEP", x.state(4), 0);
        }
    }

    /** The STEPS one by one: what each leaves behind. */
    private static void stepByStep() {
        String text = "class A[o] { int v; A[o] n; int f(int i) { this.v = i * 2; return this.v; } } "
            + "main { A[world] a = new A[world]; int i = 0; while (i < 2) { i = i + a.f(3); } return -i; }";
        OwnerHeap x = started(text, 100, 3);
        int main = text.indexOf("main");
        String[] due = {
            "A[world] a|1 0", "A[world] a|1 1", "int i|1 1", "while|1 1", "while|1 1", "while|1 1",
            "i = i +|1 1", "-|2 1", "this.v|2 1", "this.v|2 1", "return this.v|2 1", "i = i +|1 1",
            "i = i +|1 1", "i = i +|1 1", "i = i +|1 1", "return -i|1 1",
        };
        for (int k = 0; k < due.length; k++) {
            CHECK.due("STEP " + k, x.run(1), 1);
            String[] parts = due[k].split("\\|");
            int open = parts[1].charAt(0) - '0';
            int place = parts[0].equals("-") ? -1 : text.indexOf(parts[0], open == 1 ? main : 0);
            CHECK.due("CALLS behind STEP " + k, x.state(7), open);
            CHECK.due("OBJECTS behind STEP " + k, x.state(6), parts[1].charAt(2) - '0');
            CHECK.due("STATEMENT behind STEP " + k, x.call(open - 1, 3), place);
            CHECK.due("STEPS behind STEP " + k, x.state(4), k + 1);
        }
        CHECK.due("the last STEP", x.run(1), 2);
        states(x, "ended", 2, -6, 0, -1, 17, 5, 1, 0, 2, 0);
        CHECK.due("the FIELD", x.field(1, 0), 6);
    }

    private static void steps(int due, String statements) {
        String text = "class A[o] { int v; A[o] n; int f() { } int g(int a) { return a; } A[o] me() { return this; } } "
            + "main { A[world] a = new A[world]; int i = 2; " + statements + " }";
        OwnerHeap x = started(text, 100, 4);
        CHECK.due("state of " + statements, x.run(2000), 2);
        CHECK.due("STEPS of " + statements, x.state(4), 3 + due);
    }

    private static void countsSteps() {
        steps(0, "");
        steps(0, "{ { } }");
        steps(1, "i = 3;");
        steps(1, "say i;");
        steps(1, "a = null;");
        steps(1, "a.v = 3;");
        steps(2, "a.v = a.v;");
        steps(2, "a.v = -3;");
        steps(3, "a.me().v = 3;");
        steps(2, "say i + 1;");
        steps(3, "say - - i;");
        steps(2, "say i == 2;");
        steps(5, "say (i + 1) * (i - 1) < 4;");
        steps(2, "a.f();");
        steps(3, "a.g(1);");
        steps(4, "a.g(-1);");
        steps(2, "a = new A[world];");
        steps(2, "a = a as A[world];");
        steps(2, "a = null as A[world];");
        steps(1, "if (i) { }");
        steps(2, "if (i) { say 1; } else { say 1; say 2; }");
        steps(3, "if (0) { say 1; } else { say 1; say 2; }");
        steps(2, "while (0) { say 1; }");
        steps(1 + 3 * 2 + 2 * 2, "while (i != 0) { i = i - 1; }");
        steps(1, "return 1; say 2;");
        steps(3, "while (1) { return 1; }");
    }

    private static void worked(int due, String value) {
        OwnerHeap x = started("class A[o] { int v; int two() { return 2; } } main { int big = 999999999; int a = 7; "
            + "int b = 0 - 2; A[world] o = new A[world]; A[world] p = new A[world]; A[world] q = o; return " + value + "; }", 50, 2);
        CHECK.due("state of " + value, x.run(2000), 2);
        CHECK.due(value, x.state(1), due);
    }

    private static void works() {
        worked(3, "1 + 2");
        worked(-4, "1 - 2 - 3");
        worked(7, "1 + 2 * 3");
        worked(9, "(1 + 2) * 3");
        worked(-3, "a / b");
        worked(1, "a % b");
        worked(-3, "-a / 2");
        worked(-1, "-a % 2");
        worked(2, "20 / 3 / 3");
        worked(-2, "- - b");
        worked(999999999 * 3, "big * 3");
        worked(Integer.MIN_VALUE, "-big - big - 147483650");
        worked(Integer.MIN_VALUE, "(-big - big - 147483650) / -1");
        worked(0, "(-big - big - 147483650) % -1");
        worked(Integer.MIN_VALUE, "-(-big - big - 147483650)");
        worked(Integer.MAX_VALUE, "-big - big - 147483651");
        worked(1, "b < a");
        worked(0, "a < a");
        worked(1, "a == 7");
        worked(0, "a != 7");
        worked(1, "o == q");
        worked(0, "o == p");
        worked(1, "o != p");
        worked(1, "p != null");
        worked(1, "null == null");
        worked(4, "o.two() + p.two()");
        worked(0, "o.v");
    }

    private static void trouble(int number, String marked) {
        int place = marked.indexOf('@');
        OwnerHeap x = started(marked.replace("@", ""), 20, 3);
        CHECK.due("state of " + marked, x.run(2000), 3);
        CHECK.due("TROUBLE of " + marked, x.state(2), number);
        CHECK.due("PLACE of " + marked, x.state(3), place);
        CHECK.due("state(0) of " + marked, x.state(0), 3);
        CHECK.due("state(1) of " + marked, x.state(1), 0);
        CHECK.due("CALLS of " + marked, x.state(7), 0);
        CHECK.due("call of " + marked, x.call(0, 2), -1);
        CHECK.due("run behind " + marked, x.run(1), -1);
    }

    private static void troubles() {
        String a = "class A[o] { int v; A[o] n; int f() { return 1; } int g(A[o] x) { x.g(x); } int h(int i) { } } "
            + "class B[o,p] is A[o] { } ";
        trouble(1, a + "main { A[world] x = null; say x.@v; }");
        trouble(1, a + "main { A[world] x = null; x.@v = 1; }");
        trouble(1, a + "main { A[world] x = null; x.@f(); }");
        trouble(1, a + "main { A[world] x = new A[world]; say x.n.@v; }");
        trouble(1, a + "main { A[world] x = new A[world]; x.n.@v = x.v; }");
        trouble(1, a + "main { A[world] x = new A[world]; say x.n.@n.v; }");
        trouble(2, a + "main { A[world] x = null; x.v = 1 @/ 0; }");
        trouble(1, a + "main { A[world] x = null; x.@h(1 / 1); }");
        trouble(2, a + "main { A[world] x = null; x.h(1 @/ 0); }");
        trouble(2, "main { say 1 @% 0; }");
        trouble(2, "main { say 1 @/ (2 - 2); }");
        trouble(3, a + "main { A[world] x = new A[world]; x = x @as B[world,world]; }");
        trouble(4, a + "main { A[world] x = null; while (1) { x = @new A[world]; } }");
        trouble(4, a + "main { while (1) { say new A[world] == @new B[world,world]; } }");
        trouble(5, a.replace("x.g(x)", "x.@g(x)") + "main { A[world] x = new A[world]; x.g(x); }");
        trouble(1, a.replace("x.g(x)", "x.@g(null)") + "main { A[world] x = new A[world]; x.g(x); }");
    }

    private static void fullAndDeep() {
        String text = "class A[o] { int v; A[o] n; int f(int i) { if (0 < i) { this.f(i - 1); } } } "
            + "main { new A[world].f(2); A[world] a = new A[world]; }";
        OwnerHeap x = started(text, 10, 4);
        CHECK.due("just enough", x.run(2000), 2);
        states(x, "just enough", 2, 0, 0, -1, 17, 10, 2, 0, 4, 0);
        x.start(9, 4);
        CHECK.due("a WORD less", x.run(2000), 3);
        states(x, "a WORD less", 3, 0, 4, text.lastIndexOf("new"), 17, 5, 1, 0, 4, 0);
        x.start(10, 3);
        CHECK.due("a CALL less", x.run(2000), 3);
        states(x, "a CALL less", 3, 0, 5, text.indexOf("f(i - 1"), 13, 5, 1, 0, 3, 0);
        OwnerHeap y = started("class A[o] { int f(A[o] x) { x.f(null); } } main { new A[world].f(null); }", 8, 2);
        CHECK.due("null ahead of DEEP", y.run(100), 3);
        CHECK.due("NULL", y.state(2), 1);
    }

    /** as looks at the OBJECTS that the OWNERS are. */
    private static void casts() {
        String text = "class A[o] { int v; } class B[o,p] is A[o] { int w; } "
            + "class C[o,d] { A[this] h; A[d] u; int mk(int k) { "
            + "if (k == 0) { this.h = new B[this,o]; } if (k == 1) { this.h = new B[this,this]; } "
            + "if (k == 2) { this.h = new B[this,d]; } if (k == 3) { this.h = new B[this,world]; } return 1; } "
            + "int a(int k) { B[this,o] b = this.h as B[this,o]; } "
            + "int b(int k) { B[this,this] b = this.h as B[this,this]; } "
            + "int c(int k) { B[this,d] b = this.h as B[this,d]; A[this] x = b as A[this]; } "
            + "int e(int k) { B[this,world] b = this.h as B[this,world]; } "
            + "int sub() { C[this,o] c = new C[this,o]; c.mk(0); c.a(1); say 1; c.c(1); } } ";
        String[] calls = {"a", "b", "c", "e"};
        for (int k = 0; k < 4; k++) {
            for (int j = 0; j < 4; j++) {
                OwnerHeap x = started(text + "main { C[world,world] c = new C[world,world]; c.mk(" + k + "); c."
                    + calls[j] + "(1); }", 50, 4);
                boolean world = k != 1 && j != 1;
                int state = k == j || world ? 2 : 3;
                CHECK.due("as of " + k + " by " + calls[j], x.run(2000), state);
            }
        }
        OwnerHeap x = started(text + "main { C[world,world] c = new C[world,world]; c.sub(); }", 50, 4);
        CHECK.due("as of one inside", x.run(2000), 3);
        CHECK.due("the first as went", x.said(0), 1);
        CHECK.due("the second one", x.state(2), 3);
        CHECK.due("is in c", x.state(3), text.indexOf("as B[this,d]"));
    }

    private static void over() {
        String text = "class A[o] { int f() { return 1; } int g() { return this.f(); } } "
            + "class C[o] is B[o,world] { int f() { return 3; } } "
            + "class B[o,p] is A[o] { A[p] w; int f() { return 2; } A[p] mk() { return new A[p]; } A[o] mo() { return new A[o]; } } "
            + "class D[o,q] is B[o,q] { D[o,q] self() { return this; } } "
            + "class E[o] { D[this,o] d; int go() { this.d = new D[this,o]; A[o] a = this.d.mk(); A[this] b = this.d.mo(); say a.g(); } } "
            + "main { A[world] a = new A[world]; say a.g(); a = new B[world,world]; say a.g(); a = new C[world]; say a.g(); "
            + "a = new D[world,world]; say a.g(); E[world] e = new E[world]; e.go(); }";
        OwnerHeap x = started(text, 200, 5);
        CHECK.due("run", x.run(2000), 2);
        int[] said = {1, 2, 3, 2, 1};
        for (int k = 0; k < said.length; k++) {
            CHECK.due("said(" + k + ")", x.said(k), said[k]);
        }
        int e = 5;
        CHECK.due("CLASS of what E made", x.object(6, 0), 3);
        CHECK.due("its owner", x.owner(6, 0), e);
        CHECK.due("its second OWNER", x.owner(6, 1), 0);
        CHECK.due("A[p] by a METHOD of B", x.owner(7, 0), 0);
        CHECK.due("A[o] by a METHOD of B", x.owner(8, 0), e);
    }

    private static void numbersSaid() {
        OwnerHeap x = started("main { int i = 0; while (i < 203) { say 1000 + i; i = i + 1; } }", 8, 1);
        CHECK.due("run", x.run(2000), 2);
        CHECK.due("said", x.state(9), 203);
        CHECK.due("said(0)", x.said(0), 1000);
        CHECK.due("said(199)", x.said(199), 1199);
        CHECK.due("said(200)", x.said(200), 0);
        CHECK.due("said(202)", x.said(202), 0);
        CHECK.due("said(-1)", x.said(-1), 0);
        CHECK.due("said far away", x.said(Integer.MAX_VALUE), 0);
    }

    private static void callsAndVariables() {
        String text = "class Z[o] { int z; } class A[o] { int v; int f() { } int g(int p, A[o] q) { int r = p + 1; { int s = r + 1; } "
            + "int t = 9; q.v = 1; say t; return q.f(); } } "
            + "main { int a = 5; A[world] b = new A[world]; { int c = 6; } int d = b.g(a, b); }";
        OwnerHeap x = started(text, 20, 3);
        CHECK.due("main ahead of all", x.call(0, 3), -1);
        CHECK.due("no VARIABLE is set", x.variable(0, 0), 0);
        CHECK.due("up to the call", x.run(5), 1);
        CHECK.due("in main", x.call(0, 3), text.lastIndexOf("int d"));
        CHECK.due("the call", x.run(1), 1);
        CHECK.due("CALLS", x.state(7), 2);
        int[] mains = {-1, -1, 0, text.lastIndexOf("int d")};
        int[] calls = {1, 1, 1, -1};
        for (int what = 0; what < 4; what++) {
            CHECK.due("call(0, " + what + ")", x.call(0, what), mains[what]);
            CHECK.due("call(1, " + what + ")", x.call(1, what), calls[what]);
            CHECK.due("call(2, " + what + ")", x.call(2, what), -1);
            CHECK.due("call(-1, " + what + ")", x.call(-1, what), -1);
        }
        CHECK.due("call(1, 4)", x.call(1, 4), -1);
        CHECK.due("call(1, -1)", x.call(1, -1), -1);
        variables(x, 0, 5, 1, 6, 0);
        variables(x, 1, 5, 1, 0, 0, 0);
        x.run(5);
        variables(x, 1, 5, 1, 6, 7, 9);
        CHECK.due("in t", x.call(1, 3), text.indexOf("int t"));
        CHECK.due("no such CALL", x.variable(2, 0), 0);
        CHECK.due("no such CALL", x.variable(-1, 0), 0);
        CHECK.due("to the end", x.run(100), 2);
        CHECK.due("none is open", x.call(0, 2), -1);
        CHECK.due("no VARIABLE", x.variable(0, 0), 0);
    }

    private static void variables(OwnerHeap x, int i, int... due) {
        CHECK.due("variable(" + i + ", -1)", x.variable(i, -1), 0);
        for (int k = 0; k < due.length; k++) {
            CHECK.due("variable(" + i + ", " + k + ")", x.variable(i, k), due[k]);
        }
        CHECK.due("variable(" + i + ", one too many)", x.variable(i, due.length), 0);
        CHECK.due("variable(" + i + ", 16)", x.variable(i, 16), 0);
    }

    /** Behind the last VARIABLE of a CALL there is none, though another CALL has some. */
    private static void sixteenVariables() {
        StringBuilder text = new StringBuilder("class A[o] { int f(int i) { say i; } } main { A[world] a = new A[world]; ");
        for (int i = 1; i < 16; i++) {
            text.append("int v").append(i).append(" = ").append(i).append("; ");
        }
        OwnerHeap x = started(text + "a.f(77); }", 20, 2);
        x.run(2 + 15 + 2);
        CHECK.due("of f", x.variable(1, 0), 77);
        CHECK.due("the last of main", x.variable(0, 15), 15);
        CHECK.due("behind it", x.variable(0, 16), 0);
        CHECK.due("far behind it", x.variable(0, Integer.MAX_VALUE), 0);
    }

    /** What a loop left in a VARIABLE stays till it is told again; a new call begins with 0. */
    private static void variablesStay() {
        OwnerHeap x = started("class A[o] { int f(int i) { if (i) { int k = 7; } return i; } } main { A[world] a = new A[world]; "
            + "int i = 0; while (i < 2) { i = i + 1; int k = i; } a.f(1); a.f(0); }", 20, 2);
        x.run(3 + 1 + 2 + 3);
        CHECK.due("first time", x.variable(0, 2), 1);
        x.run(2 + 2);
        CHECK.due("second time, not yet told", x.variable(0, 2), 1);
        x.run(1);
        CHECK.due("second time", x.variable(0, 2), 2);
        x.run(2 + 2 + 2);
        CHECK.due("in f", x.variable(1, 1), 7);
        x.run(3);
        CHECK.due("in f anew", x.variable(1, 1), 0);
        CHECK.due("its CALL", x.call(1, 0), 0);
    }

    public static void main(String[] args) {
        starts();
        endsWithoutSteps();
        stepByStep();
        countsSteps();
        works();
        troubles();
        fullAndDeep();
        casts();
        over();
        numbersSaid();
        callsAndVariables();
        sixteenVariables();
        variablesStay();
        CHECK.end();
    }
}
