/** Terms 3 and promises 7 to 12 at their edges: the empty, the full, one less and one more, ints that wrap. */
public final class RunEdgeTest {
    private static final Check CHECK = new Check();
    private static final int LEAST = Integer.MIN_VALUE;
    private static final int MOST = Integer.MAX_VALUE;
    /** The least int, told by NUMBERS of nine digits. */
    private static final String LEAST_TOLD = "(0 - 999999999 - 999999999 - 147483650)";
    private static final String MOST_TOLD = "(999999999 + 999999999 + 147483649)";

    private static String joined(String part, int many) {
        StringBuilder made = new StringBuilder();
        for (int i = 0; i < many; i++) {
            made.append(i == 0 ? "" : ",").append(part.replace("#", "" + i));
        }
        return made.toString();
    }

    /** "with so many WORDS (8 .. 4000) and CALLS (1 .. 40): true; false .. for others". */
    private static void startsWithin() {
        OwnerHeap x = CHECK.loaded("main { say 1; }", false);
        int[] words = {LEAST, -1, 0, 1, 7, 8, 9, 3999, 4000, 4001, MOST};
        int[] calls = {LEAST, -1, 0, 1, 2, 39, 40, 41, MOST};
        for (int w : words) {
            for (int c : calls) {
                boolean due = w >= 8 && w <= 4000 && c >= 1 && c <= 40;
                CHECK.due("start(" + w + ", " + c + ")", x.start(w, c), due);
            }
        }
        CHECK.due("none without a PROGRAM", new OwnerHeap().start(8, 1), false);
        OwnerHeap y = new OwnerHeap();
        Check.load(y, "main { say x; }", false);
        CHECK.due("none behind a FAULT alone", y.start(8, 1), false);
    }

    /** "It takes 2 WORDS, 1 for each OWNER, 1 for each FIELD"; "4 FULL: new, and there are not so many WORDS left". */
    private static void wordsOfAnObject() {
        for (int owners = 1; owners <= 5; owners++) {
            for (int fields = 0; fields <= 4; fields++) {
                int size = 2 + owners + fields;
                String kind = "B[" + joined("world", owners) + "]";
                String above = "class A[" + joined("o#", owners) + "] { " + (fields > 0 ? "int v; " : "") + (fields > 1 ? "A["
                    + joined("o#", owners) + "] w; " : "") + "int m() { } } ";
                String text = above + "class B[" + joined("o#", owners) + "] is A[" + joined("o#", owners) + "] { "
                    + (fields > 2 ? "int x; " : "") + (fields > 3 ? "int y; " : "") + "} main { " + kind
                    + " b = null; while (1) { b = new " + kind + "; } }";
                for (int words : new int[] {8, 2 * size, 2 * size - 1, 2 * size + 1, 3 * size}) {
                    filled(text, Math.max(words, 8), size);
                }
            }
        }
    }

    private static void filled(String text, int words, int size) {
        OwnerHeap x = CHECK.started(text, words, 1);
        int objects = words / size;
        String what = words + " WORDS for " + text;
        CHECK.due(what, x.run(2 + 3 * objects + 2), 1);
        CHECK.states(x, what, 1, 0, 0, -1, 2 + 3 * objects + 2, objects * size, objects, 1, 1, 0);
        CHECK.due("one STEP more of " + what, x.run(1), 3);
        CHECK.states(x, what, 3, 0, 4, text.lastIndexOf("new"), 2 + 3 * objects + 3, objects * size, objects, 0, 1, 0);
        CHECK.due("the last OBJECT of " + what, x.object(objects, 1), objects == 0 ? -1 : 0);
        CHECK.due("none behind it, " + what, x.object(objects + 1, 0), -1);
    }

    private static OwnerHeap fullHeap(String members, int words) {
        OwnerHeap x = CHECK.started("class A[o] { " + members + " } main { A[world] a = null; A[world] b = null; "
            + "while (1) { b = new A[world]; " + (members.isEmpty() ? "" : "b.n = a; a = b; ") + "} }", words, 1);
        int state = 1;
        for (int k = 0; k < 10 && state == 1; k++) {
            state = x.run(2000);
        }
        CHECK.due("full", state, 3);
        CHECK.due("FULL", x.state(2), 4);
        return x;
    }

    /** The most OBJECTS that there can be, and the walker on them. */
    private static void fullHeaps() {
        for (int words = 3998; words <= 4000; words++) {
            OwnerHeap x = fullHeap("", words);
            int most = words / 3;
            CHECK.due("OBJECTS", x.state(6), most);
            CHECK.due("WORDS", x.state(5), 3 * most);
            CHECK.due("the last one", x.object(most, 1), 0);
            CHECK.due("none behind", x.object(most + 1, 1), -1);
            CHECK.due("isInside itself", x.isInside(most, most), true);
            CHECK.due("isInside world", x.isInside(most, 0), true);
            CHECK.due("isInside another", x.isInside(most, most - 1), false);
            CHECK.due("isInside none", x.isInside(most, most + 1), false);
            CHECK.due("way to itself", x.way(most, most), 0);
            CHECK.due("way to another", x.way(most, 1), -1);
            CHECK.due("above", x.above(most), 0);
            CHECK.due("above none", x.above(most + 1), -1);
            CHECK.due("leaks", x.leaks(), 0);
            CHECK.due("leak(0)", x.leak(0), -1);
            CHECK.due("past", x.past(most, 0), -1);
        }
        for (int words = 3999; words <= 4000; words++) {
            OwnerHeap x = fullHeap("A[o] n;", words);
            int most = words / 4;
            CHECK.due("OBJECTS", x.state(6), most);
            CHECK.due("WORDS", x.state(5), 4 * most);
            CHECK.due("the last FIELD", x.field(most, 0), most - 1);
            CHECK.due("a long WAY", x.way(most, 1), most - 1);
            CHECK.due("none back", x.way(1, most), -1);
            CHECK.due("above a ROOT", x.above(1), 0);
        }
    }

    private static String recursion(int n) {
        return "class A[o] { int f(int n) { if (n == 0) { return 0; } return 1 + this.f(n - 1); } } "
            + "main { A[world] a = new A[world]; return a.f(" + n + "); }";
    }

    /** "5 DEEP: a call, and there are as many CALLS open (main is one) as may be". */
    private static void deepCalls() {
        for (int calls = 1; calls <= 40; calls++) {
            if (calls > 1) {
                OwnerHeap x = CHECK.started(recursion(calls - 2), 8, calls);
                CHECK.due("just " + calls + " CALLS", x.run(2000), 2);
                CHECK.due("the most there were", x.state(8), calls);
                CHECK.due("what it ended with", x.state(1), calls - 2);
            }
            String text = recursion(calls - 1);
            OwnerHeap y = CHECK.started(text, 8, calls);
            CHECK.due("more than " + calls + " CALLS", y.run(2000), 3);
            int place = calls == 1 ? text.lastIndexOf("f(") : text.indexOf("f(n - 1)");
            CHECK.states(y, "DEEP with " + calls, 3, 0, 5, place, 4 + 5 * (calls - 1), 3, 1, 0, calls, 0);
        }
    }

    /** "asked behind 1": null is a NULL, however many CALLS are open. */
    private static void nullAheadOfDeep() {
        String text = "class A[o] { int f() { } } main { A[world] a = null; a.f(); }";
        OwnerHeap x = CHECK.started(text, 8, 1);
        CHECK.due("a TROUBLE", x.run(10), 3);
        CHECK.states(x, "NULL", 3, 0, 1, text.lastIndexOf("f("), 3, 0, 0, 0, 1, 0);
    }

    /** "At most n STEPS (1 .. 2000) are done"; "NONE, and nothing happens, for another n, or if none goes on". */
    private static void stepsDone() {
        OwnerHeap x = CHECK.started("main { while (1) { } }", 8, 1);
        int done = 0;
        for (int n : new int[] {1, 2, 1, 1999, 2000, 2000, 1}) {
            CHECK.due("run(" + n + ")", x.run(n), 1);
            done += n;
            CHECK.due("STEPS behind run(" + n + ")", x.state(4), done);
        }
        for (int n : new int[] {0, -1, 2001, -2000, LEAST, MOST}) {
            CHECK.due("run(" + n + ")", x.run(n), -1);
            CHECK.due("STEPS behind run(" + n + ")", x.state(4), done);
            CHECK.due("state behind run(" + n + ")", x.state(0), 1);
        }
        CHECK.due("it goes on", x.run(1), 1);
        CHECK.due("a STEP more", x.state(4), done + 1);
        OwnerHeap y = CHECK.started("main { " + "say 1; ".repeat(60) + "}", 8, 1);
        CHECK.due("one STEP less than there are", y.run(59), 1);
        CHECK.due("said", y.state(9), 59);
        CHECK.due("the last STEP", y.run(1), 2);
        CHECK.due("said", y.state(9), 60);
        CHECK.due("none goes on", y.run(1), -1);
        y.start(8, 1);
        CHECK.due("just as many STEPS as there are", y.run(60), 2);
        CHECK.due("STEPS", y.state(4), 60);
        y.start(8, 1);
        CHECK.due("more STEPS than there are", y.run(61), 2);
        CHECK.due("STEPS", y.state(4), 60);
    }

    /** The STEP of a TROUBLE is done; "ahead of all else of it". */
    private static void stepOfATrouble() {
        String text = "main { say 1; say 2 / 0; say 3; }";
        OwnerHeap x = CHECK.started(text, 8, 1);
        CHECK.due("ahead of it", x.run(2), 1);
        CHECK.states(x, "ahead of it", 1, 0, 0, -1, 2, 0, 0, 1, 1, 1);
        CHECK.due("it", x.run(1), 3);
        CHECK.states(x, "behind it", 3, 0, 2, text.indexOf("/"), 3, 0, 0, 0, 1, 1);
        CHECK.due("none goes on", x.run(1), -1);
        CHECK.states(x, "nothing happened", 3, 0, 2, text.indexOf("/"), 3, 0, 0, 0, 1, 1);
    }

    private static void worked(int due, String value) {
        OwnerHeap x = CHECK.started("main { int l = " + LEAST_TOLD + "; int m = " + MOST_TOLD + "; int o = 0 - 1; int t = 46341; return "
            + value + "; }", 8, 1);
        CHECK.due("state of " + value, x.run(2000), 2);
        CHECK.due(value, x.state(1), due);
    }

    /** "Ints wrap; / % towards 0. == != < give 1 or 0". */
    private static void intsWrap() {
        worked(LEAST, "l");
        worked(MOST, "m");
        worked(LEAST, "m + 1");
        worked(MOST, "l - 1");
        worked(MOST, "l + o");
        worked(-2, "m + m");
        worked(0, "l + l");
        worked(-1, "l + m");
        worked(0, "l - l");
        worked(1, "l - m");
        worked(-1, "m - l");
        worked(LEAST, "-l");
        worked(-MOST, "-m");
        worked(LEAST, "- -l");
        worked(LEAST, "l * o");
        worked(LEAST, "l / o");
        worked(0, "l % o");
        worked(LEAST, "o * l");
        worked(0, "l * 2");
        worked(-2, "m * 2");
        worked(1, "m * m");
        worked(0, "l * l");
        worked(46341 * 46341, "t * t");
        worked(999999999 * 999999999, "999999999 * 999999999");
        worked(1, "l / l");
        worked(0, "m / l");
        worked(-1, "l / m");
        worked(-1, "l % m");
        worked(MOST, "m % l");
        worked(-1073741824, "l / 2");
        worked(0, "l % 2");
        worked(-1, "l / m");
        for (int a : new int[] {7, -7, 6, 1, -1, 0}) {
            for (int b : new int[] {2, -2, 7, -8, 1, -1}) {
                String left = a < 0 ? "-" + -a : "" + a;
                String right = b < 0 ? "-" + -b : "" + b;
                worked(a / b, left + " / " + right);
                worked(a % b, left + " % " + right);
                worked(a < b ? 1 : 0, left + " < " + right);
                worked(a == b ? 1 : 0, left + " == " + right);
                worked(a != b ? 1 : 0, left + " != " + right);
            }
        }
        worked(1, "l < m");
        worked(0, "m < l");
        worked(1, "l < 0");
        worked(0, "0 < l");
        worked(0, "l < l");
        worked(0, "m < m");
        worked(1, "l == l");
        worked(0, "l == m");
        worked(1, "l != m");
        worked(1, "-l == l");
        worked(1, "m + 1 == l");
    }

    /** "2 ZERO: / % by 0", whatever is divided. */
    private static void byZero() {
        for (String left : new String[] {"0", "1", "-1", LEAST_TOLD, MOST_TOLD}) {
            for (String sign : new String[] {"/", "%"}) {
                for (String right : new String[] {"0", "-0", "(1 - 1)", "000000000"}) {
                    String text = "main { say 5; return " + left + " " + sign + " " + right + "; }";
                    OwnerHeap x = CHECK.started(text, 8, 1);
                    CHECK.due("state of " + text, x.run(2000), 3);
                    CHECK.due("TROUBLE of " + text, x.state(2), 2);
                    CHECK.due("PLACE of " + text, x.state(3), text.lastIndexOf(sign));
                    CHECK.due("ended with nothing", x.state(1), 0);
                }
            }
        }
    }

    private static void saidBy(String text, int... due) {
        OwnerHeap x = CHECK.started(text, 200, 20);
        CHECK.due("state of " + text, x.run(2000), 2);
        for (int k = 0; k < due.length; k++) {
            CHECK.due("said(" + k + ") of " + text, x.said(k), due[k]);
        }
        CHECK.due("state(9) of " + text, x.state(9), due.length);
    }

    /** "0 is not so, for if, while": all others are. */
    private static void notSo() {
        for (String value : new String[] {"1", "-1", "2", "256", LEAST_TOLD, MOST_TOLD}) {
            saidBy("main { if (" + value + ") { say 1; } else { say 2; } }", 1);
            saidBy("main { int n = 3; int i = " + value + "; while (i) { say n; n = n - 1; i = n; } }", 3, 2, 1);
        }
        saidBy("main { if (0) { say 1; } else { say 2; } }", 2);
        saidBy("main { if (0) { say 1; } say 3; }", 3);
        saidBy("main { if (1) { say 1; } say 3; }", 1, 3);
        saidBy("main { if (-0) { say 1; } else { say 2; } }", 2);
        saidBy("main { while (0) { say 1; } say 2; }", 2);
        saidBy("main { while (" + LEAST_TOLD + " + " + LEAST_TOLD + ") { say 1; } say 2; }", 2);
    }

    /** "All is worked from the left, parts ahead of it, both sides of operators". */
    private static void fromTheLeft() {
        String a = "class A[o] { int v; A[o] n; int s(int i) { say i; return i; } A[o] me(int i) { say i; return this; } "
            + "int t(int a, int b, int c) { say a * 100 + b * 10 + c; return 0; } A[o] no(int i) { say i; } } "
            + "main { A[world] a = new A[world]; ";
        saidBy(a + "say a.s(1) + a.s(2) * a.s(3) - a.s(4); }", 1, 2, 3, 4, 3);
        saidBy(a + "say (a.s(1) + a.s(2)) * a.s(3); }", 1, 2, 3, 9);
        saidBy(a + "say a.s(0) * a.s(5) < a.s(6); }", 0, 5, 6, 1);
        saidBy(a + "say a.s(0) == a.s(1) - a.s(2); }", 0, 1, 2, 0);
        saidBy(a + "a.me(1).t(a.s(2), a.s(3), -a.s(4)); }", 1, 2, 3, 4, 226);
        saidBy(a + "a.me(1).me(a.s(2)).v = a.s(3); say a.v; }", 1, 2, 2, 3, 3);
        saidBy(a + "a.me(1).n = a.me(2); say a.n == a; }", 1, 2, 1);
        saidBy(a + "say a.no(1) == null; say a.no(2) != a; }", 1, 1, 2, 1);
        OwnerHeap x = CHECK.started(a + "a.no(1).v = a.s(2); }", 20, 3);
        CHECK.due("NULL is asked behind E", x.run(2000), 3);
        CHECK.due("both were worked", x.state(9), 2);
        CHECK.due("NULL", x.state(2), 1);
        OwnerHeap y = CHECK.started(a + "a.no(1).t(a.s(2), a.s(3), a.s(4)); }", 20, 3);
        CHECK.due("NULL is asked behind ARGUMENTS", y.run(2000), 3);
        CHECK.due("all were worked", y.state(9), 4);
        OwnerHeap z = CHECK.started(a + "say a.no(1).n.v + a.s(2); }", 20, 3);
        CHECK.due("NULL of a FIELD is asked at once", z.run(2000), 3);
        CHECK.due("the rest was not worked", z.state(9), 1);
    }

    /** "return ends the METHOD; at its end it gives 0 or null"; main "ends with what return gives, else with 0". */
    private static void returns() {
        String a = "class A[o] { int e() { } A[o] n() { } int i(int i) { if (i) { return 1; } } A[o] k(int i) { if (i) { return this; } } "
            + "int w() { int i = 0; while (1) { { i = i + 1; if (i == 3) { return i; say 77; } } } say 78; } } "
            + "main { A[world] a = new A[world]; ";
        saidBy(a + "say a.e(); say a.n() == null; say a.i(0); say a.i(5); say a.k(0) == null; say a.k(1) == a; say a.w(); }",
            0, 1, 0, 1, 1, 1, 3);
        for (String end : new String[] {"", "{ }", "say 1;", "return 0;", "return 0; say 1;"}) {
            OwnerHeap x = CHECK.started("main { " + end + " }", 8, 1);
            CHECK.due("state of " + end, x.run(100), 2);
            CHECK.due("0 behind " + end, x.state(1), 0);
        }
        for (String end : new String[] {"return 9;", "{ { return 9; } }", "while (1) { return 9; }", "if (0) { } else { return 9; } return 8;"}) {
            OwnerHeap x = CHECK.started("main { " + end + " say 1; }", 8, 1);
            CHECK.due("state of " + end, x.run(100), 2);
            CHECK.due("9 behind " + end, x.state(1), 9);
            CHECK.due("nothing is said behind " + end, x.state(9), 0);
        }
    }

    /** "from 0 on; the first 200 are kept": 199, 200 and 201 of them, and none. */
    private static void numbersKept() {
        for (int many : new int[] {0, 1, 199, 200, 201, 250}) {
            OwnerHeap x = CHECK.started("main { int i = 0; while (i < " + many + ") { say 1000 + i; i = i + 1; } }", 8, 1);
            CHECK.due("run", x.run(2000), 2);
            CHECK.due("numbers said", x.state(9), many);
            for (int k : new int[] {LEAST, -1, 0, 1, 198, 199, 200, 201, MOST}) {
                boolean there = k >= 0 && k < 200 && k < many;
                CHECK.due("said(" + k + ") of " + many, x.said(k), there ? 1000 + k : 0);
            }
            CHECK.due("start anew", x.start(8, 1), true);
            CHECK.due("none is said", x.state(9), 0);
            CHECK.due("none is kept", x.said(0), 0);
            x.run(6);
            CHECK.due("the first again", x.said(0), many > 0 ? 1000 : 0);
            CHECK.due("none of those before", x.said(1), 0);
        }
    }

    /** "VARIABLES have a place each in the order in which they are told": those of BLOCKS that have ended keep theirs. */
    private static void placesOfVariables() {
        String told = "int a = 1; { int b = 2; { int c = 3; say c; } int d = 4; say b; say d; } int e = 5; say e; "
            + "if (a) { int b = 6; say b; } else { int c = 7; say c; } while (a) { int b = 8; say b; a = 0; } int b = 9; say b; say e; say a; ";
        int[] said = {3, 2, 4, 5, 6, 8, 9, 5, 0};
        int[] variables = {0, 2, 3, 4, 5, 6, 0, 8, 9};
        saidBy("main { " + told + "}", said);
        saidBy("class A[o] { int f(int p, int q) { " + told + "} } main { new A[world].f(11, 12); }", said);
        OwnerHeap x = CHECK.started("main { " + told + "while (1) { } }", 8, 1);
        x.run(100);
        OwnerHeap y = CHECK.started("class A[o] { int f(int p, int q) { " + told + "while (1) { } } } main { new A[world].f(11, 12); }", 8, 2);
        y.run(100);
        for (int k = 0; k < variables.length; k++) {
            CHECK.due("variable(0, " + k + ")", x.variable(0, k), variables[k]);
            CHECK.due("variable(1, " + (k + 2) + ")", y.variable(1, k + 2), variables[k]);
        }
        CHECK.due("a PARAM", y.variable(1, 0), 11);
        CHECK.due("another PARAM", y.variable(1, 1), 12);
        CHECK.due("none behind", x.variable(0, variables.length), 0);
        CHECK.due("none in main", y.variable(0, 0), 0);
    }

    /** 40 CALLS with 16 VARIABLES each: each has its own. */
    private static void fullFrames() {
        StringBuilder text = new StringBuilder("class A[o] { int f(int n) { ");
        for (int k = 1; k < 16; k++) {
            text.append("int v").append(k).append(" = n * 100 + ").append(k).append("; ");
        }
        text.append("if (n < 38) { this.f(n + 1); } ");
        text.append("return v15; } } main { A[world] a = new A[world]; ");
        for (int k = 1; k < 16; k++) {
            text.append("int v").append(k).append(" = 0 - ").append(k).append("; ");
        }
        OwnerHeap x = CHECK.started(text + "say a.f(0); }", 8, 40);
        int each = 15 * 3 + 2 + 3;
        CHECK.due("up to the last call", x.run(2 + 15 * 2 + 2), 1);
        for (int k = 0; k < 38; k++) {
            x.run(each);
        }
        CHECK.due("all CALLS are open", x.state(7), 40);
        CHECK.due("the last call has begun nothing", x.call(39, 3), -1);
        CHECK.due("the last call's METHOD", x.call(39, 1), 0);
        CHECK.due("none behind it", x.call(40, 1), -1);
        CHECK.due("its PARAM", x.variable(39, 0), 38);
        CHECK.due("its first VARIABLE", x.variable(39, 1), 0);
        CHECK.due("its last VARIABLE", x.variable(39, 15), 0);
        x.run(15 * 3);
        for (int i = 1; i < 40; i++) {
            for (int k : new int[] {0, 1, 14, 15}) {
                CHECK.due("variable(" + i + ", " + k + ")", x.variable(i, k), k == 0 ? i - 1 : (i - 1) * 100 + k);
            }
            CHECK.due("variable(" + i + ", 16)", x.variable(i, 16), 0);
            CHECK.due("variable(" + i + ", -1)", x.variable(i, -1), 0);
        }
        CHECK.due("main's first", x.variable(0, 0), 1);
        CHECK.due("main's last", x.variable(0, 15), -15);
        CHECK.due("no CALL 40", x.variable(40, 0), 0);
        CHECK.due("to the end", x.run(2000), 2);
        CHECK.due("said", x.said(0), 15);
        CHECK.due("the most there were", x.state(8), 40);
        CHECK.due("none is open", x.variable(0, 15), 0);
    }

    /** 40 CALLS, in each as many open signs and ARGUMENTS as may be, with values that wait on each. */
    private static void fullOfWaiting() {
        StringBuilder deep = new StringBuilder("this.f(n - 1)");
        for (int k = 0; k < 9; k++) {
            deep.insert(0, k % 3 == 0 ? "1 != 0 + 2 * this.g(1, 2, 3, 4, 5, " : "0 - 2 * this.g(1, 2, 3, 4, 5, ").append(")");
        }
        String text = "class A[o] { int g(int a, int b, int c, int d, int e, int f) { return ((((a * 3 + b) * 3 + c) * 3 + d) * 3 + e) * 3 + f; } "
            + "int f(int n) { if (n == 0) { return 7; } return " + deep + "; } } main { A[world] a = new A[world]; return a.f(37); }";
        OwnerHeap x = CHECK.started(text, 8, 40);
        int state = x.run(2000);
        for (int k = 0; k < 20 && state == 1; k++) {
            state = x.run(2000);
        }
        CHECK.due("state", state, 2);
        CHECK.due("CALLS", x.state(8), 39);
        int due = 7;
        for (int n = 0; n < 37; n++) {
            for (int k = 0; k < 9; k++) {
                int g = ((((3 + 2) * 3 + 3) * 3 + 4) * 3 + 5) * 3 + due;
                due = k % 3 == 0 ? (1 != 2 * g ? 1 : 0) : 0 - 2 * g;
            }
        }
        CHECK.due("what it ended with", x.state(1), due);
    }

    /** A RUN that begins anew knows nothing of the one ahead of it. */
    private static void anew() {
        String text = "class A[o] { int v; A[o] n; int f(int i) { int j = i; return j; } } main { int k = 0; A[world] a = new A[world]; "
            + "say a.v; say a.n == null; a.v = 7; a.n = a; k = a.f(3); A[world] b = new A[world]; say b.v; b.v = 8; b.n = b; return k; }";
        OwnerHeap x = CHECK.started(text, 20, 2);
        for (int k = 0; k < 3; k++) {
            CHECK.due("run", x.run(2000), 2);
            CHECK.states(x, "ended", 2, 3, 0, -1, 21, 10, 2, 0, 2, 3);
            CHECK.due("a FIELD is 0 at first", x.said(0), 0);
            CHECK.due("or null", x.said(1), 1);
            CHECK.due("of the second, too", x.said(2), 0);
            CHECK.due("start", x.start(20, 2), true);
            CHECK.states(x, "begun", 1, 0, 0, -1, 0, 0, 0, 1, 1, 0);
            CHECK.due("no OBJECT", x.object(1, 0), -1);
            CHECK.due("no FIELD", x.field(1, 0), 0);
            CHECK.due("main's VARIABLE", x.variable(0, 0), 0);
            CHECK.due("main's OBJECT", x.variable(0, 1), 0);
            CHECK.due("no STATEMENT", x.call(0, 3), -1);
            CHECK.due("said", x.said(0), 0);
        }
        x.run(9);
        CHECK.due("in the middle", x.state(0), 1);
        CHECK.due("start in the middle", x.start(9, 2), true);
        CHECK.states(x, "begun", 1, 0, 0, -1, 0, 0, 0, 1, 1, 0);
        CHECK.due("with a WORD less", x.run(2000), 3);
        CHECK.due("FULL", x.state(2), 4);
        CHECK.due("start behind a TROUBLE", x.start(20, 2), true);
        CHECK.states(x, "begun", 1, 0, 0, -1, 0, 0, 0, 1, 1, 0);
        CHECK.due("run", x.run(2000), 2);
        CHECK.due("another PROGRAM", Check.load(x, "class B[o,p] { int v; int w; } main { B[world,world] b = new B[world,world]; say b.v + b.w; }",
            false), 0);
        CHECK.states(x, "no RUN", 0, 0, 0, -1, 0, 0, 0, 0, 0, 0);
        CHECK.due("start", x.start(20, 2), true);
        CHECK.due("run", x.run(2000), 2);
        CHECK.due("fresh FIELDS", x.said(0), 0);
    }

    /** "NONE ahead of the first"; main's CALL and those of METHODS, up to the RUN's end. */
    private static void callsFromTheirBeginning() {
        String text = "class A[o] { int e() { } int f() { return 1; } int g() { { this.e(); } return 2; } } class B[o] is A[o] { int g() { return 3; } int h() { } } "
            + "main { B[world] b = new B[world]; b.f(); b.h(); b.g(); }";
        OwnerHeap x = CHECK.started(text, 8, 2);
        mainAlone(x, -1);
        x.run(2);
        mainAlone(x, text.indexOf("B[world] b"));
        x.run(1);
        mainAlone(x, text.indexOf("b.f()"));
        x.run(1);
        called(x, 0, 1, -1);
        x.run(1);
        CHECK.due("f has ended", x.call(1, 0), -1);
        x.run(2);
        CHECK.due("h was empty", x.state(7), 1);
        x.run(2);
        called(x, 1, 0, -1);
        CHECK.due("call(1, 4)", x.call(1, 4), -1);
        CHECK.due("call(1, -1)", x.call(1, -1), -1);
        CHECK.due("to the end", x.run(1), 2);
        for (int what = 0; what < 4; what++) {
            CHECK.due("call(0, " + what + ") behind the end", x.call(0, what), -1);
        }
    }

    private static void mainAlone(OwnerHeap x, int statement) {
        int[] due = {-1, -1, 0, statement};
        for (int what = 0; what < 4; what++) {
            CHECK.due("call(0, " + what + ")", x.call(0, what), due[what]);
            CHECK.due("call(1, " + what + ")", x.call(1, what), -1);
        }
    }

    private static void called(OwnerHeap x, int of, int method, int statement) {
        CHECK.due("CLASS", x.call(1, 0), of);
        CHECK.due("METHOD", x.call(1, 1), method);
        CHECK.due("OBJECT", x.call(1, 2), 1);
        CHECK.due("STATEMENT", x.call(1, 3), statement);
    }

    /** "a NAME what it stands for in that OBJECT, as of the CLASS in which the METHOD is told": world, too. */
    private static void namesThatStand() {
        String a = "class A[o,p] { int v; X[p] x; X[o] y; int mk() { this.x = new X[p]; this.y = new X[o]; } "
            + "int ask(X[p] x) { X[p] z = x as X[p]; } A[o,p] like() { return new A[o,p]; } } class X[o] { int w; } ";
        // the NAMES of five CLASSES stand for other OWNERS in A: its p is world, the 2nd, the 5th, the 1st
        String[] kinds = {"world", "b", "e", "a"};
        for (String p : kinds) {
            String text = a + "class B[a,b,c,d,e] is A[a," + p + "] { int first; int go() { this.v = 7; this.first = 8; this.mk(); this.ask(this.x); } } "
                + "class M[o] { B[this,o,this,world,this] b; int go() { this.b = new B[this,o,this,world,this]; this.b.go(); say 1; } "
                + "A[this,P] c; int like() { this.c = this.b.like(); } } main { M[world] m = new M[world]; m.go(); m.like(); }";
            String stands = p.equals("b") ? "o" : p.equals("world") ? "world" : "this";
            OwnerHeap x = CHECK.loaded(text.replace("A[this,P]", "A[this," + stands + "]"), false);
            CHECK.due("start", x.start(100, 9), true);
            CHECK.due("run with " + p, x.run(2000), 2);
            CHECK.due("all was done", x.said(0), 1);
            int due = stands.equals("this") ? 1 : 0;
            CHECK.due("owner of X[p] for " + p, x.owner(3, 0), due);
            CHECK.due("owner of X[o] for " + p, x.owner(4, 0), 1);
            CHECK.due("what like() made: owner", x.owner(5, 0), 1);
            CHECK.due("what like() made: its second OWNER for " + p, x.owner(5, 1), due);
            CHECK.due("FIELD x", x.field(2, 1), 3);
            CHECK.due("FIELD y", x.field(2, 2), 4);
            CHECK.due("FIELD first", x.field(2, 3), 8);
        }
    }

    private static void cast(boolean goes, String from, String to) {
        String text = "class Z[o] { int q; } class A[o,p] { int v; } class M[o,d] { Z[world] z; "
            + "int go(int i) { A[FROM] a = null; if (i) { a = new A[FROM]; } say 1; A[TO] b = a as A[TO]; say 2; return b == a; } } "
            + "class N[o] { M[this,o] m; M[o,o] n; int go(int i) { this.m = new M[this,o]; return this.m.go(i); } } "
            + "main { Z[world] z = new Z[world]; N[world] n = new N[world]; say n.go(0); say n.go(1); }";
        text = text.replace("FROM", from).replace("TO", to);
        OwnerHeap x = CHECK.loaded(text, true);
        CHECK.due("start", x.start(100, 9), true);
        CHECK.due("from " + from + " as " + to, x.run(2000), goes ? 2 : 3);
        CHECK.due("null is as any of " + to, x.said(2), 1);
        CHECK.due("TROUBLE of " + to, x.state(2), goes ? 0 : 3);
        CHECK.due("PLACE of " + to, x.state(3), goes ? -1 : text.indexOf("as A["));
        CHECK.due("numbers said of " + to, x.state(9), goes ? 6 : 4);
    }

    /** "as: null, or an OBJECT whose TYPE FITS that TYPE by the OBJECTS that its OWNERS are": each OWNER is asked. */
    private static void castsByOwners() {
        String[] owners = {"this", "o", "d", "world"};
        // in M[this,o] of an N[world]: this is the M, o the N, d and world are world
        int[] are = {2, 1, 0, 0};
        for (int i = 0; i < 16; i++) {
            for (int j = 0; j < 16; j++) {
                boolean goes = are[i / 4] == are[j / 4] && are[i % 4] == are[j % 4];
                cast(goes, owners[i / 4] + "," + owners[i % 4], owners[j / 4] + "," + owners[j % 4]);
            }
        }
        saidBy("class A[o] { } class B[o] is A[o] { } main { A[world] a = null as B[world]; say a == null; A[world] c = null; "
            + "c = c as B[world]; say c == null; say null as A[world] == null; }", 1, 1, 1);
    }

    /** Up and down a row of CLASSES: those it is, and those it is not. */
    private static void castsByClasses() {
        StringBuilder classes = new StringBuilder("class C0[o] { } ");
        for (int c = 1; c < 8; c++) {
            classes.append("class C").append(c).append("[o] is C").append(c - 1).append("[o] { } ");
        }
        classes.append("class D[o] is C3[o] { } main { C0[world] a = new ");
        for (int made = 0; made < 8; made++) {
            for (int to = 0; to < 8; to++) {
                OwnerHeap x = CHECK.started(classes + "C" + made + "[world]; a = a as C" + to + "[world]; }", 8, 1);
                CHECK.due("C" + made + " as C" + to, x.run(10), to <= made ? 2 : 3);
            }
            OwnerHeap x = CHECK.started(classes + "C" + made + "[world]; a = a as D[world]; }", 8, 1);
            CHECK.due("C" + made + " as D", x.run(10), 3);
            OwnerHeap y = CHECK.started(classes + "D[world]; a = a as C" + made + "[world]; }", 8, 1);
            CHECK.due("D as C" + made, y.run(10), made <= 3 ? 2 : 3);
        }
    }

    private static OwnerHeap longRun(String text) {
        OwnerHeap x = CHECK.started(text, 8, 3);
        int state = 1;
        for (int k = 0; k < 100 && state == 1; k++) {
            state = x.run(2000);
        }
        CHECK.due("state of " + text, state, 2);
        return x;
    }

    /** What a STATEMENT leaves behind does not grow, however often it is done. */
    private static void oftenDone() {
        String a = "class A[o] { int f(int n) { return n; } A[o] me() { return this; } int w(int n) { while (n) { n = n - 1; if (n % 2) { } else { } } return 5; } } "
            + "main { A[world] a = new A[world]; int i = 0; while (i < 6000) { ";
        String z = " i = i + 1; } return 1000 + 10 * (a.f(i) - a.f(5000)); }";
        for (String often : new String[] {"", "a.f(i);", "a.me();", "i = i;", "int j = i;", "if (i) { } else { }", "if (i % 3) { a = a; }", "{ { } }",
            "while (0) { }", "say i;", "a.me().f(1);"}) {
            CHECK.due("behind " + often, longRun(a + often + z).state(1), 11000);
        }
        saidBy(a.replace("6000", "0") + "} say 100 + a.w(5); say a.w(3) * 10 + a.w(4); say a.f(1) - (a.w(2) - a.f(a.w(0))); }", 105, 55, 1);
    }

    /** "An object is used for at most 512 calls": the last of them is as good as the first. */
    private static void lastCall() {
        OwnerHeap x = new OwnerHeap();
        int feeds = 3;
        Check.feed(x, "main { int i = 0; while (1) { i = i + 1; } }         ");
        CHECK.due("load", x.load(44, false), 0);
        CHECK.due("start", x.start(8, 1), true);
        int done = 0;
        for (int k = feeds + 2; k < 511; k++) {
            CHECK.due("run", x.run(2000), 1);
            done += 2000;
        }
        CHECK.due("STEPS at the 512th call", x.state(4), done);
    }

    public static void main(String[] args) {
        startsWithin();
        wordsOfAnObject();
        fullHeaps();
        deepCalls();
        nullAheadOfDeep();
        stepsDone();
        stepOfATrouble();
        intsWrap();
        byZero();
        notSo();
        fromTheLeft();
        returns();
        numbersKept();
        placesOfVariables();
        fullFrames();
        fullOfWaiting();
        anew();
        callsFromTheirBeginning();
        namesThatStand();
        castsByOwners();
        castsByClasses();
        oftenDone();
        lastCall();
        CHECK.end();
    }
}
