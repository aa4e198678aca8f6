/** Terms 4 and promises 13 to 21 at their edges: no OBJECT, one, the last, one behind it, the longest WAYS. */
public final class WalkEdgeTest {
    private static final Check CHECK = new Check();
    private static final int LEAST = Integer.MIN_VALUE;
    private static final int MOST = Integer.MAX_VALUE;

    private static OwnerHeap ended(String text, boolean trust) {
        OwnerHeap x = CHECK.loaded(text, trust);
        CHECK.due("start", x.start(4000, 40), true);
        int state = x.run(2000);
        for (int k = 0; k < 20 && state == 1; k++) {
            state = x.run(2000);
        }
        CHECK.due("run of " + text, state, 2);
        return x;
    }

    /** "NONE if there is none such", "False ..", "0 ..": of OBJECTS that are not there. */
    private static void noSuchObject() {
        OwnerHeap x = ended("class A[o,p] { A[o,p] f() { } int v; A[o,p] g() { } A[o,p] n; A[o,p] h() { } } main { A[world,world] a = new A[world,world]; a.v = 2; a.n = a; "
            + "A[world,world] b = new A[world,world]; b.v = 1; }", false);
        for (int o : new int[] {LEAST, -2, -1, 0, 3, 4, MOST}) {
            for (int what = 0; what < 5; what++) {
                CHECK.due("object(" + o + ", " + what + ")", x.object(o, what), -1);
            }
            for (int i = 0; i < 2; i++) {
                CHECK.due("owner(" + o + ", " + i + ")", x.owner(o, i), -1);
                CHECK.due("field(" + o + ", " + i + ")", x.field(o, i), 0);
                CHECK.due("past(" + o + ", " + i + ")", x.past(o, i), -1);
            }
            CHECK.due("isInside(" + o + ", 1)", x.isInside(o, 1), false);
            CHECK.due("isInside(" + o + ", 0)", x.isInside(o, 0), false);
            CHECK.due("isInside(1, " + o + ")", x.isInside(1, o), o == 0);
            CHECK.due("isInside(" + o + ", " + o + ")", x.isInside(o, o), false);
            CHECK.due("way(" + o + ", 1)", x.way(o, 1), -1);
            CHECK.due("way(1, " + o + ")", x.way(1, o), -1);
            CHECK.due("way(" + o + ", " + o + ")", x.way(o, o), -1);
            CHECK.due("above(" + o + ")", x.above(o), -1);
        }
        for (int i : new int[] {LEAST, -1, 2, 3, MOST}) {
            CHECK.due("owner(1, " + i + ")", x.owner(1, i), -1);
            CHECK.due("field(1, " + i + ")", x.field(1, i), 0);
        }
        for (int what : new int[] {LEAST, -1, 5, 6, MOST}) {
            CHECK.due("object(1, " + what + ")", x.object(1, what), -1);
        }
        CHECK.due("an int is no HOP", x.way(2, 1), -1);
        CHECK.due("nor is the other one", x.way(1, 2), -1);
        CHECK.due("a HOP to itself", x.way(1, 1), 0);
        CHECK.due("above a ROOT", x.above(1), 0);
        CHECK.due("above another ROOT", x.above(2), 0);
    }

    /** "a is INSIDE b, if a is b, or a's owner is INSIDE b": as deep as CALLS go. */
    private static void deepInside() {
        OwnerHeap x = ended("class A[o] { A[this] h; int f(int n) { if (n) { this.h = new A[this]; this.h.f(n - 1); } } } "
            + "main { A[world] a = new A[world]; a.f(38); }", false);
        CHECK.due("OBJECTS", x.state(6), 39);
        for (int o = 1; o <= 39; o++) {
            CHECK.due("owner of " + o, x.object(o, 1), o - 1);
            CHECK.due("object(" + o + ", 4)", x.object(o, 4), o - 1);
            CHECK.due("above(" + o + ")", x.above(o), o - 1);
            CHECK.due("isInside(39, " + o + ")", x.isInside(39, o), true);
            CHECK.due("isInside(" + o + ", 39)", x.isInside(o, 39), o == 39);
            CHECK.due("isInside(20, " + o + ")", x.isInside(20, o), o <= 20);
            CHECK.due("way(1, " + o + ")", x.way(1, o), o - 1);
        }
        CHECK.due("leaks", x.leaks(), 0);
    }

    private static final String CLASSES = "class R[o] { R[o] s; R[o] t; } class K[o,p] { R[p] it; K[o,p] n; K[o,p] m; } ";

    /** A WAY past the owner that is as long as the heap holds: "NONE if .. the WAY has no such OBJECT". */
    private static void longPast() {
        OwnerHeap x = ended(CLASSES + "class W[o] { R[this] r; K[this,this] k; int go(int i) { this.r = new R[this]; "
            + "this.k = new K[this,this]; K[this,this] a = this.k; while (0 < i) { a.n = new K[this,this]; a = a.n; i = i - 1; } "
            + "a.it = this.r; K[world,this] z = new K[world,this]; K[world,this] y = z; i = 300; "
            + "while (0 < i) { y.n = new K[world,this]; y = y.n; i = i - 1; } y.it = this.r; } } "
            + "main { W[world] w = new W[world]; w.go(200); }", true);
        // 1 the W, 2 the R, 3 to 203 its K, 204 to 504 those of world's, each a ROOT: the last holds the R
        CHECK.due("OBJECTS", x.state(6), 504);
        CHECK.due("leaks", x.leaks(), 1);
        CHECK.due("leak(0)", x.leak(0), 2);
        CHECK.due("leak(1)", x.leak(1), -1);
        CHECK.due("past(2, -1)", x.past(2, -1), -1);
        CHECK.due("past(2, 0)", x.past(2, 0), 504);
        CHECK.due("past(2, 1)", x.past(2, 1), 2);
        CHECK.due("past(2, 2)", x.past(2, 2), -1);
        CHECK.due("above(2)", x.above(2), 0);
        CHECK.due("above(203)", x.above(203), 202);
        CHECK.due("way(3, 203)", x.way(3, 203), 200);
        CHECK.due("way(204, 2)", x.way(204, 2), 301);
        CHECK.due("way(1, 2)", x.way(1, 2), 1);
        x = ended(CLASSES + "class V[o] { K[world,o] a; } class W[o] { V[this] v; R[this] r; K[world,this] k; int go(int i) { "
            + "this.r = new R[this]; R[this] a = this.r; while (0 < i) { a.s = new R[this]; a = a.s; i = i - 1; } "
            + "this.k = new K[world,this]; this.k.it = this.r; } } main { W[world] w = new W[world]; w.go(300); }", true);
        // 1 the W, 2 to 302 its R, one behind the other, 303 a K of world's that holds the first
        CHECK.due("leaks", x.leaks(), 301);
        CHECK.due("leak(0)", x.leak(0), 2);
        CHECK.due("leak(300)", x.leak(300), 302);
        CHECK.due("leak(301)", x.leak(301), -1);
        CHECK.due("leak(-1)", x.leak(-1), -1);
        CHECK.due("past(302, 0)", x.past(302, 0), 303);
        for (int i = 1; i <= 301; i += 10) {
            CHECK.due("past(302, " + i + ")", x.past(302, i), 1 + i);
        }
        CHECK.due("past(302, 301)", x.past(302, 301), 302);
        CHECK.due("past(302, 302)", x.past(302, 302), -1);
        CHECK.due("past(302, -1)", x.past(302, -1), -1);
        CHECK.due("past of no LEAK", x.past(303, 0), -1);
        CHECK.due("past of a ROOT", x.past(1, 0), -1);
        CHECK.due("past of none", x.past(304, 0), -1);
        CHECK.due("above the last", x.above(302), 301);
        CHECK.due("above the first", x.above(2), 0);
    }

    private static void pasts(OwnerHeap x, int leak, int... due) {
        CHECK.due("past(" + leak + ", -1)", x.past(leak, -1), -1);
        for (int i = 0; i < due.length; i++) {
            CHECK.due("past(" + leak + ", " + i + ")", x.past(leak, i), due[i]);
        }
        CHECK.due("past(" + leak + ", " + due.length + ")", x.past(leak, due.length), -1);
    }

    /** "going from ROOTS by numbers, then of each OBJECT that was come to, in that order, along its FIELDS in order". */
    private static void firstCome() {
        String head = CLASSES + "class W[o] { R[this] r; int go() { this.r = new R[this]; ";
        String tail = "} } main { W[world] w = new W[world]; w.go(); }";
        String three = "K[world,this] a = new K[world,this]; K[world,this] b = new K[world,this]; K[world,this] c = new K[world,this]; ";
        // 2 the R, 3 to 5 the K
        OwnerHeap x = ended(head + three + "c.it = this.r; b.it = this.r; a.n = b; a.m = c; " + tail, true);
        pasts(x, 2, 4, 2);
        x = ended(head + three + "c.it = this.r; a.n = c; b.it = null; " + tail, true);
        pasts(x, 2, 5, 2);
        String inner = "K[world,this] a = new K[world,this]; R[this] b = new R[this]; R[this] c = new R[this]; a.it = b; ";
        // 2 the R, 3 the K, 4 and 5 are R, too
        x = ended(head + inner + "b.s = c; b.t = this.r; c.s = this.r; " + tail, true);
        CHECK.due("leaks", x.leaks(), 3);
        pasts(x, 2, 3, 4, 2);
        pasts(x, 4, 3, 4);
        pasts(x, 5, 3, 4, 5);
        String ladder = "K[world,this] a = new K[world,this]; R[this] b = new R[this]; R[this] c = new R[this]; R[this] d = new R[this]; "
            + "a.it = b; b.s = d; b.t = c; c.s = this.r; d.s = this.r; ";
        // 4 leads to 6 first, then to 5; both to 2
        x = ended(head + ladder + tail, true);
        pasts(x, 2, 3, 4, 6, 2);
        x = ended(head + ladder.replace("b.s = d; b.t = c;", "b.t = d; b.s = c;") + tail, true);
        pasts(x, 2, 3, 4, 5, 2);
    }

    /** "that does not go through its owner (ROOT and end are on a WAY)". */
    private static void throughTheOwner() {
        // the owner holds it itself: each WAY goes through it
        OwnerHeap x = ended(CLASSES + "class W[o] { R[this] r; int go() { this.r = new R[this]; } } "
            + "main { W[world] w = new W[world]; w.go(); }", true);
        CHECK.due("no LEAK", x.leaks(), 0);
        CHECK.due("above it", x.above(2), 1);
        pasts(x, 2);
        // one inside holds what another one inside owns: past 3, though not past 1
        x = ended(CLASSES + "class V[o] { R[this] r; K[o,this] k; int mk(K[o,this] k) { this.r = new R[this]; this.k = k; k.it = this.r; } "
            + "int go() { this.mk(new K[o,this]); } } class W[o] { V[this] v; K[this,world] k; int go() { this.v = new V[this]; "
            + "this.v.go(); } } main { W[world] w = new W[world]; w.go(); }", true);
        // 1 W, 2 V, 3 K owned by 1, 4 R owned by 2; 3 is only reached through 2
        CHECK.due("owner of 3", x.owner(3, 0), 1);
        CHECK.due("owner of 4", x.owner(4, 0), 2);
        CHECK.due("no LEAK, as 3 is reached through 2 alone", x.leaks(), 0);
        CHECK.due("above(4)", x.above(4), 2);
        CHECK.due("above(3)", x.above(3), 2);
        // an owner to which no WAY leads is past
        x = ended(CLASSES + "class V[o] { K[world,this] k; int go() { this.k = new K[world,this]; this.k.it = new R[this]; } } "
            + "class W[o] { V[this] v; int go() { this.v = new V[this]; this.v.go(); this.v = null; } } "
            + "main { W[world] w = new W[world]; w.go(); }", true);
        CHECK.due("a LEAK", x.leaks(), 1);
        CHECK.due("the R", x.leak(0), 4);
        CHECK.due("no WAY to its owner", x.above(2), -1);
        pasts(x, 4, 3, 4);
        // what no WAY leads to is no LEAK
        x = ended(CLASSES + "class W[o] { int go() { K[this,this] k = new K[this,this]; k.it = new R[this]; } } "
            + "main { W[world] w = new W[world]; w.go(); }", true);
        CHECK.due("no LEAK", x.leaks(), 0);
        CHECK.due("no WAY to it", x.above(3), -1);
        CHECK.due("a WAY between them", x.way(2, 3), 1);
        pasts(x, 3);
    }

    /** What the first OBJECT leads to and another one owns is a LEAK, though all WAYS go through the first. */
    private static void underTheFirst() {
        for (int kept = 0; kept < 2; kept++) {
            OwnerHeap x = ended("class Base[o] { } class R[o] { int v; } class K[o,p] is Base[o] { R[p] it; } "
                + "class V[o] { R[this] r; Base[o] give(int kept) { K[o,this] k = new K[o,this]; k.it = new R[this]; "
                + "if (kept) { this.r = k.it; } return k; } } class W[o] { Base[this] b; V[this] v; int go() { this.v = new V[this]; "
                + "this.b = this.v.give(" + kept + "); } } main { W[world] w = new W[world]; w.go(); }", true);
            // 1 the W, 2 the V, 3 the K of 1, 4 the R of 2: 1 leads to 2 and 3, 3 to 4, and 2 to 4 if it is kept there
            CHECK.due("leaks", x.leaks(), 1);
            CHECK.due("leak(0)", x.leak(0), 4);
            pasts(x, 4, 1, 3, 4);
            CHECK.due("above(4)", x.above(4), kept == 1 ? 1 : 3);
            CHECK.due("above(3)", x.above(3), 1);
            CHECK.due("way(2, 4)", x.way(2, 4), kept == 1 ? 1 : -1);
        }
    }

    private static boolean holdsObject(int slot) {
        return slot == 0 || slot == 63 || slot == 65 || slot == 128 || slot == 191 || slot == 192 || slot == 367;
    }

    /** A HOP lies in any FIELD that holds OBJECTS, the 64th and the last of all, too; in no int. */
    private static void farFields() {
        StringBuilder text = new StringBuilder();
        for (int c = 0; c < 16; c++) {
            text.append("class C").append(c).append("[o]").append(c == 0 ? "" : " is C" + (c - 1) + "[o]").append("{");
            for (int m = 0; m < 23; m++) {
                int slot = 23 * c + m;
                text.append(holdsObject(slot) ? "C0[o] " : "int ").append((char) ('a' + m)).append(c == 0 ? "" : "" + (char) ('A' + c)).append(";");
            }
            text.append("}");
        }
        for (int slot : new int[] {0, 1, 62, 63, 64, 65, 66, 126, 127, 128, 129, 130, 190, 191, 192, 193, 255, 256, 319, 320, 366, 367}) {
            boolean kind = holdsObject(slot);
            String name = (char) ('a' + slot % 23) + (slot < 23 ? "" : "" + (char) ('A' + slot / 23));
            String main = "main{C15[world]x=new C15[world];C0[world]y=new C0[world];x." + name + "=" + (kind ? "y" : "2") + ";}";
            OwnerHeap x = ended(text + main, false);
            CHECK.due("FIELD " + slot, x.field(1, slot), 2);
            CHECK.due("way by FIELD " + slot, x.way(1, 2), kind ? 1 : -1);
            CHECK.due("no way back by FIELD " + slot, x.way(2, 1), -1);
        }
    }

    public static void main(String[] args) {
        noSuchObject();
        deepInside();
        longPast();
        firstCome();
        throughTheOwner();
        underTheFirst();
        farFields();
        CHECK.end();
    }
}
