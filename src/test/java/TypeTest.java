/** Promises 5 and 6: what is told of the CLASSES, and what is known of their OWNERS. */
public final class TypeTest {
    private static final Check CHECK = new Check();
    private static final String TEXT =
        "class A[o] { int v; A[o] n; int f() { } }\n"
        + "class C[o,p,q,r] is B[o,r] where p in q, q in r { int x; A[o] g() { } int h() { } }\n"
        + "class B[o,p] is A[o] { A[p] w; } class D[a,b,c] where c in b, b in a { } main { }";

    private static void types(OwnerHeap x) {
        int[][] due = {
            {1, -1, 2, 1, 0, 6},
            {4, 2, 4, 2, 2, TEXT.indexOf("C[o,p")},
            {2, 0, 3, 0, 0, TEXT.indexOf("B[o,p]")},
            {3, -1, 0, 0, 2, TEXT.indexOf("D[a")},
        };
        for (int c = -1; c <= 4; c++) {
            for (int what = -1; what <= 6; what++) {
                boolean there = c >= 0 && c < 4 && what >= 0 && what < 6;
                CHECK.due("type(" + c + ", " + what + ")", x.type(c, what), there ? due[c][what] : -1);
            }
        }
    }

    /** Rows and columns: this, world, the NAMES. */
    private static void known(OwnerHeap x, int c, String... rows) {
        for (int i = 0; i < rows.length; i++) {
            for (int j = 0; j < rows.length; j++) {
                boolean due = rows[i].charAt(j) == '1';
                CHECK.due("isIn(" + c + ", " + (i - 2) + ", " + (j - 2) + ")", x.isIn(c, i - 2, j - 2), due);
            }
            int over = rows.length - 2;
            CHECK.due("isIn to none", x.isIn(c, i - 2, over), false);
            CHECK.due("isIn from none", x.isIn(c, over, i - 2), false);
            CHECK.due("isIn to -3", x.isIn(c, i - 2, -3), false);
            CHECK.due("isIn from -3", x.isIn(c, -3, i - 2), false);
        }
    }

    /** Five NAMES, eight INS, the 16th CLASS. */
    private static void lastOfAll() {
        StringBuilder text = new StringBuilder();
        for (int c = 0; c < 15; c++) {
            text.append("class C").append(c).append("[o] { int v").append(c).append("; } ");
        }
        int place = text.length() + 6;
        text.append("class Last[a,b,c,d,e] is C14[a] where b in c, c in d, b in b, a in e, a in a, b in c, a in b, e in e { int f() { } } main { }");
        OwnerHeap x = CHECK.loaded(text.toString(), false);
        int[] due = {5, 14, 1, 1, 8, place};
        for (int what = 0; what < 6; what++) {
            CHECK.due("type(15, " + what + ")", x.type(15, what), due[what]);
        }
        for (int what : new int[] {Integer.MIN_VALUE, -1, 6, Integer.MAX_VALUE}) {
            CHECK.due("type(15, " + what + ")", x.type(15, what), -1);
        }
        for (int c : new int[] {Integer.MIN_VALUE, -1, 16, Integer.MAX_VALUE}) {
            for (int what = 0; what < 6; what++) {
                CHECK.due("type(" + c + ", " + what + ")", x.type(c, what), -1);
            }
            CHECK.due("isIn(" + c + ", -1, -1)", x.isIn(c, -1, -1), false);
            CHECK.due("isIn(" + c + ", 0, 0)", x.isIn(c, 0, 0), false);
        }
        known(x, 15, "1111111", "0100000", "0111111", "0101110", "0100110", "0100010", "0100001");
        known(x, 14, "111", "010", "011");
    }

    /** "what INS tell; if a is IN b, b IN c, a IN c": in any order in which they are told, and around. */
    private static void insInAnyOrder() {
        String[] orders = {"b in c, c in d, d in e", "d in e, c in d, b in c", "c in d, b in c, d in e", "d in e, b in c, c in d"};
        for (String order : orders) {
            OwnerHeap x = CHECK.loaded("class A[a,b,c,d,e] where " + order + " { } main { }", false);
            known(x, 0, "1111111", "0100000", "0111111", "0101111", "0100111", "0100011", "0100001");
            x = CHECK.loaded("class A[a,b,c,d,e] where " + order + ", e in b { } main { }", false);
            known(x, 0, "1111111", "0100000", "0111111", "0101111", "0101111", "0101111", "0101111");
            x = CHECK.loaded("class A[a,b,c,d,e] where " + order + ", e in a { } main { }", false);
            known(x, 0, "1111111", "0100000", "0111111", "0111111", "0111111", "0111111", "0111111");
        }
    }

    /** One CLASS's INS, NAMES and MEMBERS are not another one's, nor those of a PROGRAM ahead. */
    private static void eachItsOwn() {
        OwnerHeap x = CHECK.loaded("class A[a,b,c] where b in c, c in a { int v; int f() { } } class B[a,b,c] { } main { }", true);
        known(x, 0, "11111", "01000", "01111", "01111", "01111");
        known(x, 1, "11111", "01000", "01111", "01010", "01001");
        CHECK.due("another PROGRAM", Check.load(x, "class C[a,b,c] { } class D[a,b] is C[a,b,b] { } main { }", false), 0);
        known(x, 0, "11111", "01000", "01111", "01010", "01001");
        int[][] due = {{3, -1, 0, 0, 0, 6}, {2, 0, 0, 0, 0, 25}};
        for (int c = 0; c < 2; c++) {
            for (int what = 0; what < 6; what++) {
                CHECK.due("type(" + c + ", " + what + ")", x.type(c, what), due[c][what]);
            }
        }
        CHECK.due("no third one", x.type(2, 0), -1);
        CHECK.due("a FAULT", Check.load(x, "class E[a] { int v; } class E[a] { } main { }", false), 4);
        CHECK.due("the PROGRAM stays", x.type(0, 0), 3);
    }

    public static void main(String[] args) {
        lastOfAll();
        insInAnyOrder();
        eachItsOwn();
        OwnerHeap x = new OwnerHeap();
        CHECK.due("type without a PROGRAM", x.type(0, 0), -1);
        CHECK.due("isIn without a PROGRAM", x.isIn(0, 0, 0), false);
        Check.load(x, "class A[o] { int w; int w; } main { }", false);
        CHECK.due("type behind a FAULT", x.type(0, 0), -1);
        CHECK.due("isIn behind a FAULT", x.isIn(0, 0, 0), false);
        CHECK.due("load", Check.load(x, TEXT, false), 0);
        types(x);
        known(x, 0, "111", "010", "011");
        known(x, 1, "111111", "010000", "011111", "010111", "010011", "010001");
        known(x, 2, "1111", "0100", "0111", "0101");
        known(x, 3, "11111", "01000", "01111", "01111", "01111");
        CHECK.due("isIn of no CLASS", x.isIn(4, 0, 0), false);
        CHECK.due("isIn of CLASS -1", x.isIn(-1, -1, -1), false);
        CHECK.due("isIn far away", x.isIn(0, Integer.MAX_VALUE, Integer.MIN_VALUE), false);
        Check.load(x, "main { }", false);
        CHECK.due("no CLASS", x.type(0, 0), -1);
        CHECK.end();
    }
}
