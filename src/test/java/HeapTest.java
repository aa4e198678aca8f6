/** Promises 13 to 16: the OBJECTS, their OWNERS and FIELDS, and what is INSIDE what. */
public final class HeapTest {
    private static final Check CHECK = new Check();
    private static final String TEXT =
        "class A[o] { int v; A[o] n; } class B[o,p,q] is A[o] { A[q] w; int x; } "
        + "class C[o] { C[this] sub; B[this,o,world] b; int grow(int i) { this.b = new B[this,o,world]; this.b.v = 7; "
        + "this.b.x = -i; this.b.n = new A[this]; this.b.w = new A[world]; "
        + "if (0 < i) { this.sub = new C[this]; this.sub.grow(i - 1); } } } "
        + "main { A[world] a = new A[world]; C[world] c = new C[world]; c.grow(2); a.n = a; a.v = 5; }";

    private static void row(String what, int from, int[] due, int[] got) {
        for (int i = 0; i < due.length; i++) {
            CHECK.due(what + " at " + (from + i), got[i], due[i]);
        }
    }

    private static int[] objects(OwnerHeap x, int o) {
        int[] got = new int[7];
        for (int what = -1; what < 6; what++) {
            got[what + 1] = x.object(o, what);
        }
        return got;
    }

    private static int[] owners(OwnerHeap x, int o) {
        int[] got = new int[5];
        for (int i = -1; i < 4; i++) {
            got[i + 1] = x.owner(o, i);
        }
        return got;
    }

    private static int[] fields(OwnerHeap x, int o) {
        int[] got = new int[6];
        for (int i = -1; i < 5; i++) {
            got[i + 1] = x.field(o, i);
        }
        return got;
    }

    private static void one(OwnerHeap x, int o, int[] objects, int[] owners, int[] fields) {
        row("object(" + o + ")", -1, objects, objects(x, o));
        row("owner(" + o + ")", -1, owners, owners(x, o));
        row("field(" + o + ")", -1, fields, fields(x, o));
    }

    private static void none(OwnerHeap x, int o) {
        one(x, o, new int[] {-1, -1, -1, -1, -1, -1, -1}, new int[] {-1, -1, -1, -1, -1}, new int[6]);
        CHECK.due("isInside(" + o + ", 0)", x.isInside(o, 0), false);
        CHECK.due("isInside(" + o + ", " + o + ")", x.isInside(o, o), false);
        CHECK.due("isInside(1, " + o + ")", x.isInside(1, o), o == 0 && x.state(6) > 0);
    }

    /** world stays world in the METHODS of one that is owned. */
    private static void worldInside() {
        OwnerHeap x = new OwnerHeap();
        Check.load(x, "class A[o] { A[this] h; A[world] w; A[o] s; int f(int i) { this.w = new A[world]; this.s = new A[o]; "
            + "if (i) { this.h = new A[this]; this.h.f(i - 1); } } } main { A[world] a = new A[world]; a.f(2); }", false);
        x.start(200, 9);
        CHECK.due("run", x.run(2000), 2);
        int[] owners = {0, 0, 0, 0, 1, 0, 1, 4, 0, 4};
        CHECK.due("OBJECTS", x.state(6), 9);
        for (int o = 1; o <= 9; o++) {
            CHECK.due("owner(" + o + ", 0)", x.owner(o, 0), owners[o]);
        }
    }

    /** "FIELDS: those from above first, from the topmost CLASS on, each as told", whichever CLASS is told first. */
    private static void fieldsFromAbove() {
        String under = "class C[o] is B[o] { int c; int m() { } C[o] d; } ";
        String middle = "class B[o] is A[o] { int n() { } int b; } ";
        String top = "class A[o] { int a; int e; int k() { } } ";
        String main = "main { C[world] c = new C[world]; c.a = 1; c.e = 2; c.b = 3; c.c = 4; c.d = c; B[world] b = new B[world]; b.b = 5; b.e = 6; "
            + "A[world] a = new A[world]; a.e = 7; }";
        for (String text : new String[] {under + middle + top, under + top + middle, middle + under + top, middle + top + under,
            top + under + middle, top + middle + under}) {
            OwnerHeap x = CHECK.started(text + main, 100, 1);
            CHECK.due("run", x.run(100), 2);
            row("fields of 1", -1, new int[] {0, 1, 2, 3, 4, 1}, fields(x, 1));
            row("fields of 2", -1, new int[] {0, 0, 6, 5, 0, 0}, fields(x, 2));
            row("fields of 3", -1, new int[] {0, 0, 7, 0, 0, 0}, fields(x, 3));
            CHECK.due("WORDS", x.state(5), 8 + 6 + 5);
            CHECK.due("FIELDS of 1", x.object(1, 3), 5);
            CHECK.due("FIELDS of 2", x.object(2, 3), 3);
            CHECK.due("FIELDS of 3", x.object(3, 3), 2);
            CHECK.due("a HOP to itself alone", x.way(1, 2), -1);
        }
    }

    public static void main(String[] args) {
        worldInside();
        fieldsFromAbove();
        OwnerHeap x = new OwnerHeap();
        none(x, 0);
        none(x, 1);
        Check.load(x, TEXT, false);
        none(x, 1);
        x.start(200, 10);
        none(x, 1);
        CHECK.due("run", x.run(2000), 2);
        // 1: a, 2: c, then of each C its B, an A of its own, one of world's, and the C in it
        one(x, 1, new int[] {-1, 0, 0, 1, 2, 0, -1}, new int[] {-1, 0, -1, -1, -1}, new int[] {0, 5, 1, 0, 0, 0});
        one(x, 2, new int[] {-1, 2, 0, 1, 2, 0, -1}, new int[] {-1, 0, -1, -1, -1}, new int[] {0, 6, 3, 0, 0, 0});
        one(x, 3, new int[] {-1, 1, 2, 3, 4, 1, -1}, new int[] {-1, 2, 0, 0, -1}, new int[] {0, 7, 4, 5, -2, 0});
        one(x, 4, new int[] {-1, 0, 2, 1, 2, 1, -1}, new int[] {-1, 2, -1, -1, -1}, new int[6]);
        one(x, 5, new int[] {-1, 0, 0, 1, 2, 0, -1}, new int[] {-1, 0, -1, -1, -1}, new int[6]);
        one(x, 6, new int[] {-1, 2, 2, 1, 2, 1, -1}, new int[] {-1, 2, -1, -1, -1}, new int[] {0, 10, 7, 0, 0, 0});
        one(x, 7, new int[] {-1, 1, 6, 3, 4, 2, -1}, new int[] {-1, 6, 2, 0, -1}, new int[] {0, 7, 8, 9, -1, 0});
        one(x, 8, new int[] {-1, 0, 6, 1, 2, 2, -1}, new int[] {-1, 6, -1, -1, -1}, new int[6]);
        one(x, 11, new int[] {-1, 1, 10, 3, 4, 3, -1}, new int[] {-1, 10, 6, 0, -1}, new int[] {0, 7, 12, 13, 0, 0});
        CHECK.due("OBJECTS", x.state(6), 13);
        CHECK.due("WORDS", x.state(5), 5 + 3 * (5 + 9 + 5 + 5));
        none(x, 14);
        none(x, 0);
        none(x, -1);
        none(x, Integer.MAX_VALUE);
        none(x, Integer.MIN_VALUE);
        x = CHECK.started(TEXT, 200, 10);
        CHECK.due("run", x.run(2000), 2);
        int[] owner = {0, 0, 0, 2, 2, 0, 2, 6, 6, 0, 6, 10, 10, 0};
        for (int a = 1; a <= 13; a++) {
            for (int b = 0; b <= 13; b++) {
                boolean inside = b == 0;
                for (int up = a; up != 0; up = owner[up]) {
                    inside |= up == b;
                }
                CHECK.due("isInside(" + a + ", " + b + ")", x.isInside(a, b), inside);
            }
        }
        x.start(200, 10);
        none(x, 1);
        CHECK.end();
    }
}
