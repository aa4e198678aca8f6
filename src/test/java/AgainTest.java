/** One PROGRAM behind the other, and one RUN behind the other, on one object: none knows of those ahead of it. */
public final class AgainTest {
    private static final Check CHECK = new Check();
    private static final String MUCH =
        "class A[o,p,q,r,s] where p in q, q in r, r in s, s in p { A[o,p,q,r,s] a; B[o] b; int f(int x, A[o,p,q,r,s] y, B[o] z) { } B[o] g() { } } "
        + "class B[o] is C[o] { int v; B[o] n; int m(int i, int j, int k, int l) { return 1; } } class C[o] { C[o] w; int u(C[o] c) { return 2; } } "
        + "class D[o,p] is B[o] { D[o,p] d; B[p] e; } "
        + "main { D[world,world] d = new D[world,world]; d.d = d; d.e = d; d.n = d; d.w = d; say d.m(1, 2, 3, 4); say d.u(d); say 9 / 0; }";

    private static void judged(OwnerHeap x, int number, String marked) {
        CHECK.due("load of " + marked, Check.load(x, marked.replace("@", ""), false), number);
        CHECK.due("fault(1) of " + marked, x.fault(1), marked.indexOf('@'));
    }

    /** An object that has read much, twice over, so that nothing in it is new. */
    private static OwnerHeap used() {
        OwnerHeap x = new OwnerHeap();
        for (int k = 0; k < 2; k++) {
            judged(x, 0, MUCH);
            CHECK.due("start", x.start(100, 5), true);
            CHECK.due("run", x.run(2000), 3);
            CHECK.due("ZERO", x.state(2), 2);
            CHECK.due("leaks", x.leaks(), 0);
        }
        return x;
    }

    /** What a TEXT does not tell is not known of it, whatever was told ahead of it. */
    private static void nothingIsLeft() {
        judged(used(), 5, "class A[o] { @B[o] b; } main { }");
        judged(used(), 5, "class A[o] { A[@p] b; } main { }");
        judged(used(), 5, "class A[o] { int f() { this.@g(); } } main { }");
        judged(used(), 5, "class A[o] { int f() { say this.@b == null; } } main { }");
        judged(used(), 5, "class X[o] { } class A[o] is X[o] { int f() { say this.@v; } } main { }");
        judged(used(), 5, "class A[o] where o in @p { } main { }");
        judged(used(), 5, "main { @A[world] a = null; }");
        judged(used(), 5, "main { say @d == null; }");
        judged(used(), 5, "main { @B[world] b = null; }");
        judged(used(), 8, "class A[o,p,q,r,s] { A[o,q,p,r,s] a; @T[p,q] t; } class T[o,p] { } main { }");
        judged(used(), 7, "class A[o] { } class B[o] { A[o] f() { @return this; } } class C[o] { } main { }");
        judged(used(), 0, "class A[o] { int a; int b; int c; int d; int e; int f; int g; int h; int i; int j; int k; } main { }");
        judged(used(), 0, "class A[o] { int f; int g() { } } class B[o] is A[o] { int v; int m() { } } main { }");
        judged(used(), 2, "main { int @; }");
    }

    private static void types(OwnerHeap x, int c, int... due) {
        for (int what = 0; what < 6; what++) {
            CHECK.due("type(" + c + ", " + what + ")", x.type(c, what), due[what]);
        }
    }

    /** type() and isIn() of a small PROGRAM behind a great one. */
    private static void typesOfALittle() {
        OwnerHeap x = used();
        types(x, 0, 5, -1, 2, 2, 4, 6);
        types(x, 3, 2, 1, 5, 0, 0, MUCH.indexOf("D[o,p] is"));
        for (int k = 0; k < 2; k++) {
            judged(x, 0, "class E[o,p,q,r,s] { } class F[o] { } main { }");
            types(x, 0, 5, -1, 0, 0, 0, 6);
            types(x, 1, 1, -1, 0, 0, 0, 29);
            types(x, 2, -1, -1, -1, -1, -1, -1);
            types(x, 3, -1, -1, -1, -1, -1, -1);
            for (int i = 0; i < 5; i++) {
                for (int j = 0; j < 5; j++) {
                    CHECK.due("isIn(0, " + i + ", " + j + ")", x.isIn(0, i, j), i == 0 || i == j);
                }
            }
            CHECK.due("isIn(1, 0, 1)", x.isIn(1, 0, 1), false);
            CHECK.due("isIn(2, 0, 0)", x.isIn(2, 0, 0), false);
        }
        judged(x, 0, "main { }");
        types(x, 0, -1, -1, -1, -1, -1, -1);
        CHECK.due("isIn(0, 0, 0)", x.isIn(0, 0, 0), false);
    }

    /** FIELDS that hold ints now where others held OBJECTS. */
    private static void fieldsOfALittle() {
        OwnerHeap x = used();
        for (int k = 0; k < 2; k++) {
            judged(x, 0, "class A[o] { int a; int b; } class B[o] { int c; int d; int e; int f; int g; } "
                + "main { B[world] b = new B[world]; b.c = 2; b.d = 2; b.e = 2; b.f = 2; b.g = 2; A[world] a = new A[world]; a.a = 1; a.b = 1; }");
            CHECK.due("start", x.start(100, 5), true);
            CHECK.due("run", x.run(2000), 2);
            CHECK.due("no HOP there", x.way(1, 2), -1);
            CHECK.due("nor back", x.way(2, 1), -1);
            CHECK.due("FIELDS of B", x.object(1, 3), 5);
            CHECK.due("FIELDS of A", x.object(2, 3), 2);
        }
    }

    /** As many loads as an object may have: the last is like the first. */
    private static void manyLoads() {
        StringBuilder text = new StringBuilder("class A[o]{");
        for (int m = 0; m < 24; m++) {
            text.append("int ").append((char) ('a' + m)).append(";");
        }
        text.append("}main{say 1;}");
        OwnerHeap x = new OwnerHeap();
        for (int k = 0; k < 40; k++) {
            CHECK.due("load " + k, Check.load(x, text.toString(), false), 0);
            CHECK.due("FIELDS", x.type(0, 2), 24);
        }
        CHECK.due("start", x.start(8, 1), true);
        CHECK.due("run", x.run(1), 2);
    }

    /** Signs that were open at a FAULT are not open in the next TEXT; nor are VARIABLES told there. */
    private static void openAtAFault() {
        String most = "main " + "{".repeat(12) + "}".repeat(12);
        for (String bad : new String[] {"main {{{{{ $", "main {{{{{{{{{{{{{", "main { say ((((-", "class A[o] { int f(", "class A[o] {", "main { say -(-("}) {
            OwnerHeap x = new OwnerHeap();
            CHECK.due("load of " + bad, Check.load(x, bad, false) > 0, true);
            judged(x, 0, most);
            judged(x, 3, "main " + "{".repeat(12) + "@{");
            judged(x, 0, most);
        }
        String variables = "";
        for (int i = 0; i < 16; i++) {
            variables += "int v" + i + " = 1; ";
        }
        OwnerHeap x = new OwnerHeap();
        for (int k = 0; k < 3; k++) {
            judged(x, 2, "main { " + variables + "@;");
            judged(x, 0, "main { " + variables + "}");
        }
    }

    /** The first MEMBER is a METHOD, then a FIELD, and the other way round, in PROGRAMS one behind the other. */
    private static void firstMembers() {
        String method = "class A[o] { int f(int i, A[o] j) { return i; } int v; } main { say new A[world].f(4, null); }";
        String field = "class A[o] { int f; int v(int i) { return i + this.f; } } main { say new A[world].v(4); }";
        for (String order : new String[] {"mf", "mff", "fmm", "mmf", "ffm", "mfmff"}) {
            OwnerHeap x = new OwnerHeap();
            for (char one : order.toCharArray()) {
                judged(x, 0, one == 'm' ? method : field);
                CHECK.due("FIELDS", x.type(0, 2), 1);
                CHECK.due("METHODS", x.type(0, 3), 1);
                CHECK.due("start", x.start(8, 2), true);
                CHECK.due("run", x.run(100), 2);
                CHECK.due("said", x.said(0), 4);
            }
        }
    }

    /** Long TEXTS one behind the other. */
    private static void longOnes() {
        OwnerHeap x = new OwnerHeap();
        for (int k = 0; k < 3; k++) {
            judged(x, 0, "main{say 1" + "+1".repeat(990) + ";return " + k + ";}");
            CHECK.due("start", x.start(8, 1), true);
            CHECK.due("run", x.run(2000), 2);
            CHECK.due("said", x.said(0), 991);
            CHECK.due("ended with", x.state(1), k);
        }
    }

    private static final String LEAKS = "class R[o] { int v; } class K[o,p] { R[p] it; } class W[o] { R[this] r; K[world,this] k; int go() { "
        + "this.r = new R[this]; this.k = new K[world,this]; this.k.it = this.r; } } main { W[world] w = new W[world]; w.go(); }";

    private static OwnerHeap leaking() {
        OwnerHeap x = CHECK.loaded(LEAKS, true);
        x.start(100, 5);
        CHECK.due("run", x.run(2000), 2);
        return x;
    }

    /** LEAKS of a RUN are gone with it. */
    private static void leaksAreGone() {
        OwnerHeap x = leaking();
        CHECK.due("leaks", x.leaks(), 1);
        CHECK.due("load", Check.load(x, "main { }", false), 0);
        CHECK.due("leaks behind load", x.leaks(), 0);
        CHECK.due("leak behind load", x.leak(0), -1);
        x = leaking();
        CHECK.due("leaks", x.leaks(), 1);
        CHECK.due("start", x.start(100, 5), true);
        CHECK.due("leaks behind start", x.leaks(), 0);
        CHECK.due("leak behind start", x.leak(0), -1);
        CHECK.due("above behind start", x.above(2), -1);
        x.run(10);
        CHECK.due("leaks in between", x.leaks(), 0);
        x.run(2);
        CHECK.due("leaks again", x.leaks(), 1);
    }

    /** Each question may be the first one behind a run(). */
    private static void anyQuestionFirst() {
        CHECK.due("leak(0) first", leaking().leak(0), 2);
        CHECK.due("leak(1) first", leaking().leak(1), -1);
        CHECK.due("leaks() first", leaking().leaks(), 1);
        CHECK.due("past(2, 0) first", leaking().past(2, 0), 3);
        CHECK.due("past(2, 1) first", leaking().past(2, 1), 2);
        CHECK.due("past(3, 0) first", leaking().past(3, 0), -1);
        CHECK.due("above(2) first", leaking().above(2), 0);
        OwnerHeap held = CHECK.started("class A[o] { A[this] h; int f() { this.h = new A[this]; } } main { A[world] a = new A[world]; a.f(); }", 20, 2);
        held.run(100);
        CHECK.due("past of no LEAK first", held.past(2, 0), -1);
        CHECK.due("leaks() behind it", held.leaks(), 0);
        OwnerHeap x = leaking();
        CHECK.due("past", x.past(2, 0), 3);
        CHECK.due("way behind past", x.way(1, 2), 1);
        CHECK.due("above behind way", x.above(3), 0);
        CHECK.due("past again", x.past(2, 1), 2);
        CHECK.due("leak behind all", x.leak(0), 2);
    }

    private static String waiting(int depth) {
        return "class A[o] { int g(int a, int b, int c, int d, int e, int f) { return a + b + c + d + e + f; } int f(int n) { if (n == 0) { return 7; } "
            + "return 1 + 1 * this.g(1, 2, 3, 4, 5, 1 + 1 * this.g(1, 2, 3, 4, 5, 1 + 1 * this.g(1, 2, 3, 4, 5, 1 + 1 * this.g(1, 2, 3, 4, 5, "
            + "1 + 1 * this.g(1, 2, 3, 4, 5, 1 + 1 * this.g(1, 2, 3, 4, 5, this.f(n - 1))))))); } } "
            + "main { A[world] a = new A[world]; return a.f(" + depth + "); }";
    }

    /** What waited when a TROUBLE came does not wait in the next RUN. */
    private static void troubleInTheMiddle() {
        OwnerHeap x = CHECK.loaded(waiting(37), false);
        for (int k = 0; k < 6; k++) {
            CHECK.due("start", x.start(8, 38), true);
            int state = x.run(2000);
            CHECK.due("DEEP", state == 1 ? x.run(2000) : state, 3);
            CHECK.due("DEEP", x.state(2), 5);
        }
        CHECK.due("start", x.start(8, 40), true);
        int state = 1;
        for (int k = 0; k < 10 && state == 1; k++) {
            state = x.run(2000);
        }
        CHECK.due("ended", state, 2);
        CHECK.due("with", x.state(1), 7 + 37 * 6 * 16);
    }

    public static void main(String[] args) {
        nothingIsLeft();
        typesOfALittle();
        fieldsOfALittle();
        manyLoads();
        openAtAFault();
        firstMembers();
        longOnes();
        leaksAreGone();
        anyQuestionFirst();
        troubleInTheMiddle();
        CHECK.end();
    }
}
