import java.util.Random;

/**
 * Terms 1, FAULT 3: just as many as may be, and one too many, of all that is counted; and the empty ones.
 * The sign @ in a text (which is taken out) stands ahead of the place that is due.
 */
public final class LimitTest {
    private static final Check CHECK = new Check();

    private static void fine(String text) {
        CHECK.fine(text);
    }

    private static void fault(int number, String marked) {
        CHECK.fault(number, marked);
    }

    /** So many parts, with the number of each where it has # . */
    private static String row(String part, String between, int many) {
        StringBuilder made = new StringBuilder();
        for (int i = 0; i < many; i++) {
            made.append(i == 0 ? "" : between).append(part.replace("#", "" + i));
        }
        return made.toString();
    }

    /** "a 13th { ( - open within one another": twelve of each kind, and the 13th of each. */
    private static void twelveOpen() {
        fine("main " + "{".repeat(12) + "}".repeat(12));
        fault(3, "main " + "{".repeat(12) + "@{" + "}".repeat(13));
        fine("main { say " + "(".repeat(11) + "1" + ")".repeat(11) + "; }");
        fault(3, "main { say " + "(".repeat(11) + "@(1" + ")".repeat(12) + "; }");
        fine("main { say " + "-".repeat(11) + "1; }");
        fault(3, "main { say " + "-".repeat(11) + "@-1; }");
        fine("main { " + "if (1) { ".repeat(10) + "if (1) { }" + "}".repeat(11));
        fault(3, "main { " + "if (1) { ".repeat(11) + "if @(1) { }" + "}".repeat(12));
        fine("main { " + "while (1) { ".repeat(11) + "}".repeat(12));
        fault(3, "main { " + "while (1) { ".repeat(11) + "while @(1) { }" + "}".repeat(12));
        fine("main { " + "if (1) { } else { ".repeat(11) + "}".repeat(12));
        fault(3, "main { " + "if (1) { } else { ".repeat(10) + "{ @{ } }" + "}".repeat(11));
        fault(3, "main { " + "{ ".repeat(10) + "if (1) { @{ } }" + "}".repeat(11));
        fault(3, "main { " + "{ ".repeat(11) + "say @(1); " + "}".repeat(12));
        fine("main { " + "{ ".repeat(11) + "say 1; " + "}".repeat(12));
        fault(3, "main { " + "{ ".repeat(11) + "say @-1; " + "}".repeat(12));
        fine("main { " + "{ ".repeat(10) + "say -1; say (1); if (1) { } while (0) { } " + "}".repeat(11));
        fault(3, "main { " + "{ ".repeat(11) + "null.f@(); " + "}".repeat(12));
    }

    /** "a TEXT's { of a CLASS is one", and the { of a METHOD; the ( of PARAMS is closed there. */
    private static void openInAClass() {
        String head = "class A[o] { int f(int a, int b) { ";
        fine(head + "{ ".repeat(10) + "}".repeat(10) + " } } main { }");
        fault(3, head + "{ ".repeat(10) + "@{ }" + "}".repeat(10) + " } } main { }");
        fine(head + "say " + "(".repeat(10) + "1" + ")".repeat(10) + "; } } main { }");
        fault(3, head + "say " + "(".repeat(10) + "@(1" + ")".repeat(11) + "; } } main { }");
        fine(head + "say " + "-".repeat(10) + "1; } } main { }");
        fault(3, head + "say " + "-".repeat(10) + "@-1; } } main { }");
        fine(head + "say " + "this.f(1, ".repeat(10) + "1" + ")".repeat(10) + "; } } main { }");
        fault(3, head + "say " + "this.f(1, ".repeat(10) + "this.f@(1, 1" + ")".repeat(11) + "; } } main { }");
        fault(3, head + "this.f(1, ".repeat(10) + "this.f@(1, 1" + ")".repeat(11) + "; } } main { }");
    }

    /** All kinds among one another, in pseudo-random order: "open within one another". */
    private static void openMixed() {
        Random random = new Random(3);
        String[] opens = {"(", "-", "this.f("};
        String[] closes = {")", "", ")"};
        for (int k = 0; k < 60; k++) {
            int blocks = random.nextInt(10);
            String text = "class A[o] { int f(int a) { " + "{ ".repeat(blocks) + "say ";
            String behind = "";
            for (int i = blocks; i < 10; i++) {
                int kind = random.nextInt(3);
                text += opens[kind];
                behind = closes[kind] + behind;
            }
            behind = behind + "; " + "}".repeat(blocks) + " } } main { }";
            fine(text + "1" + behind);
            fault(3, text + "@(1)" + behind);
            fault(3, text + "@-1" + behind);
            fault(3, text + "this.f@(1)" + behind);
        }
    }

    /** What is closed is not open; "a - till its UNIT's end". */
    private static void closedOnes() {
        for (String head : new String[] {"main { ", "main { { ", "main { { { "}) {
            int blocks = head.length() / 2 - 2;
            String tail = " }".repeat(blocks);
            fine(head + "say - 1 " + "- - 1 ".repeat(40) + ";" + tail);
            fine(head + "say - 1 " + "* - 1 ".repeat(40) + ";" + tail);
            fine(head + "say (1) " + "+ (1) ".repeat(40) + ";" + tail);
            fine(head + "say -(1) " + "+ -(-1) ".repeat(40) + ";" + tail);
            fine(head + "{ } ".repeat(40) + tail);
            fine(head + "if (1) { } while (0) { } ".repeat(40) + tail);
            fine(head + "say " + "-".repeat(12 - blocks) + "1" + "+ " + "-".repeat(12 - blocks) + "1;" + tail);
            fault(3, head + "say " + "-".repeat(12 - blocks) + "1" + "+ " + "-".repeat(12 - blocks) + "@-1;" + tail);
            fine(head + "say " + "-".repeat(11 - blocks) + "1 + (1);" + tail);
            fine(head + "say " + "-".repeat(12 - blocks) + "1 < (1);" + tail);
        }
        String a = "class A[o] { int f(int a) { } int g() { } } main { A[world] a = new A[world]; ";
        fine(a + "say a.g() " + "+ a.f(1) - a.f(a.g()) ".repeat(20) + "; }");
        fault(3, a + "say " + "-".repeat(11) + "a.g@(); }");
        fine(a + "say " + "-".repeat(10) + "a.g(); }");
        fault(3, a + "say " + "-".repeat(10) + "a.f(@-1); }");
        fine(a + "say " + "-".repeat(10) + "1 + a.f(-1); }");
        fault(3, a + "say " + "-".repeat(11) + "a.g@().x; }");
        fine("main { say 1 " + "- 1 ".repeat(100) + "; }");
        fine("class A[o] { " + row("int f#(int a) { } ", "", 20) + "} main { " + "{ ".repeat(11) + "}".repeat(12));
        fine(row("class A#[o] { } ", "", 16) + "main { " + "{ ".repeat(11) + "}".repeat(12));
    }

    /** "a 17th CLASS (at class)". */
    private static void classes() {
        fine("main { }");
        fine("class A[o] { } main { }");
        fine(row("class C#[o] { } ", "", 15) + "main { }");
        fine(row("class C#[o] { } ", "", 16) + "main { }");
        fault(3, row("class C#[o] { } ", "", 16) + "@class C16[o] { } main { }");
        fault(3, row("class C#[o] { } ", "", 16) + "@class");
        fault(2, row("class C#[o] { } ", "", 16) + "@C");
        fault(2, row("class C#[o] { } ", "", 15) + "class @class");
        fault(3, row("class C[o] { } ", "", 16) + "@class C[o] { } main { }");
        fault(4, "class C[o] { } class @C[o] { } " + row("class D#[o] { } ", "", 14) + "main { }");
    }

    /** "the sixth NAME .. between [ ] (at it)". */
    private static void names() {
        fault(2, "class A[@] { } main { }");
        fine("class A[n] { } main { }");
        fine("class A[" + row("n#", ",", 4) + "] { } main { }");
        fine("class A[" + row("n#", ",", 5) + "] { } main { }");
        fault(3, "class A[" + row("n#", ",", 5) + ",@n5] { } main { }");
        fault(3, "class A[" + row("n", ",", 5) + ",@n] { } main { }");
        fault(2, "class A[" + row("n#", ",", 5) + ",@] { } main { }");
        fault(2, "class A[" + row("n#", ",", 5) + ",@this] { } main { }");
        fault(2, "class A[" + row("n#", ",", 5) + " @n5] { } main { }");
        fine("class A[" + row("n#", ",", 5) + "] { } class B[" + row("n#", ",", 5) + "] { } main { }");
    }

    /** "the sixth .. OWNER between [ ] (at it)", wherever a KIND may stand. */
    private static void owners() {
        String a = "class A[a,b,c,d,e] { } ";
        String[] places = {
            "class B[a,b,c,d,e] is KIND { } main { }", "class B[a,b,c,d,e] { KIND f; } main { }",
            "class B[a,b,c,d,e] { KIND f() { } } main { }", "class B[a,b,c,d,e] { int f(KIND x) { } } main { }",
            "class B[a,b,c,d,e] { int f(int i, KIND x) { } } main { }",
            "class B[a,b,c,d,e] { int f() { KIND x = null; } } main { }",
            "class B[a,b,c,d,e] { int f() { say new KIND == null; } } main { }",
            "class B[a,b,c,d,e] { int f() { say null as KIND == null; } } main { }",
        };
        for (String place : places) {
            fine(a + place.replace("KIND", "A[a,b,c,d,e]"));
            fault(3, a + place.replace("KIND", "A[a,b,c,d,e,@a]"));
            fault(3, a + place.replace("KIND", "A[a,b,c,d,e,@world]"));
            fault(3, a + place.replace("KIND", "A[a,b,c,d,e,@this,$]"));
            fault(2, a + place.replace("KIND", "A[a,b,c,d,e,@]"));
            fault(2, a + place.replace("KIND", "A[a,b,c,d,e,@1]"));
            fault(2, a + place.replace("KIND", "A[a,b,c,d,e@;a]"));
            fault(2, a + place.replace("KIND", "A[@]"));
            fault(6, a + place.replace("KIND", "@A[a]"));
            fault(6, a + place.replace("KIND", "@A[a,b,c,d]"));
        }
    }

    /** "a ninth IN (at its first NAME)". */
    private static void ins() {
        fault(2, "class A[o] where @{ } main { }");
        fine("class A[o] { } main { }");
        fine("class A[o] where o in o { } main { }");
        fine("class A[o] where " + row("o in o", ", ", 7) + " { } main { }");
        fine("class A[o] where " + row("o in o", ", ", 8) + " { } main { }");
        fault(3, "class A[o] where " + row("o in o", ", ", 8) + ", @o in o { } main { }");
        fault(3, "class A[o] where " + row("o in o", ", ", 8) + ", @o");
        fault(2, "class A[o] where " + row("o in o", ", ", 8) + ", @{ } main { }");
        fault(2, "class A[o] where " + row("o in o", ", ", 8) + ", @this in o { } main { }");
        fault(2, "class A[o] where " + row("o in o", ", ", 7) + ", o in @{ } main { }");
        fault(2, "class A[o] where " + row("o in o", ", ", 7) + ", o @o { } main { }");
        fine(row("class A#[o] where o in o, o in o, o in o, o in o, o in o, o in o, o in o, o in o { } ", "", 16) + "main { }");
    }

    /** "a 25th MEMBER of a CLASS (at its TYPE)". */
    private static void members() {
        fine("class A[o] { } main { }");
        for (String member : new String[] {"int v#; ", "int v#() { } ", "A[o] v#; ", "A[o] v#(int a) { } "}) {
            fine("class A[o] { " + row(member, "", 1) + "} main { }");
            fine("class A[o] { " + row(member, "", 23) + "} main { }");
            fine("class A[o] { " + row(member, "", 24) + "} main { }");
            fault(3, "class A[o] { " + row(member, "", 24) + "@int v; } main { }");
            fault(3, "class A[o] { " + row(member, "", 24) + "@int");
            fault(3, "class A[o] { " + row(member, "", 24) + "@A[o] f() { } } main { }");
            fault(2, "class A[o] { " + row(member, "", 24) + "@v");
            fault(2, "class A[o] { " + row(member, "", 24) + "@; } main { }");
        }
        fine("class A[o] { " + row("int v#; int w#() { } ", "", 12) + "} main { }");
        fault(3, "class A[o] { " + row("int v#; int w#() { } ", "", 12) + "@int v; } main { }");
        fine("class A[o] { " + row("int v#; ", "", 24) + "} class B[o] is A[o] { " + row("int w#; ", "", 24) + "} main { }");
        fault(3, "class A[o] { " + row("int v#; ", "", 24) + "} class B[o] is A[o] { " + row("int w#; ", "", 24) + "@int x; } main { }");
    }

    /** "a seventh of PARAMS (at its TYPE)". */
    private static void params() {
        for (String type : new String[] {"int", "A[o]"}) {
            fine("class A[o] { int f() { } } main { }");
            fine("class A[o] { int f(" + type + " a) { } } main { }");
            fine("class A[o] { int f(" + row(type + " a#", ", ", 5) + ") { } } main { }");
            fine("class A[o] { int f(" + row(type + " a#", ", ", 6) + ") { } } main { }");
            fault(3, "class A[o] { int f(" + row(type + " a#", ", ", 6) + ", @int b) { } } main { }");
            fault(3, "class A[o] { int f(" + row(type + " a#", ", ", 6) + ", @A[o] b) { } } main { }");
            fault(3, "class A[o] { int f(" + row(type + " a#", ", ", 6) + ", @A");
            fault(2, "class A[o] { int f(" + row(type + " a#", ", ", 6) + ", @b) { } } main { }");
            fault(2, "class A[o] { int f(" + row(type + " a#", ", ", 6) + ", @) { } } main { }");
            fault(2, "class A[o] { int f(" + row(type + " a#", ", ", 6) + " @b) { } } main { }");
        }
    }

    /** "a seventh of .. ARGUMENTS (at its first TOKEN)". */
    private static void arguments() {
        String a = "class A[o] { int f(" + row("int a#", ", ", 6) + ") { this.f(";
        String z = "); } } main { }";
        fine(a + row("1", ", ", 6) + z);
        fault(6, "class A[o] { int f(" + row("int a#", ", ", 6) + ") { this.@f(" + row("1", ", ", 5) + z);
        fault(6, "class A[o] { int f() { this.@f(" + row("1", ", ", 6) + z);
        fine("class A[o] { int f() { this.f(" + z);
        for (String first : new String[] {"1", "null", "this", "x", "new A[o]", "(1)", "-1", "-(1)", "1 + 1", "this.f()"}) {
            fault(3, a + row("1", ", ", 6) + ", @" + first + z);
            fault(3, a + row("(1)", ", ", 6) + ", @" + first + ", 8" + z);
        }
        for (String none : new String[] {")", ",", ";", "=", "world", "A[o]", "int", "+ 1", "}", "as", "say"}) {
            fault(2, a + row("1", ", ", 6) + ", @" + none + z);
        }
        fine(a + "1, 1, 1, 1, 1, this.f(1, 1, 1, 1, 1, this.f(1, 1, 1, 1, 1, 1))" + z);
        fault(3, a + "1, 1, 1, 1, 1, this.f(1, 1, 1, 1, 1, 1, @1)" + z);
        fault(3, a + "1, 1, 1, 1, 1, this.f(1, 1, 1, 1, 1, 1), @1" + z);
    }

    /** "a 17th VARIABLE of a METHOD, or of main (PARAMS are some; at its NAME)". */
    private static void variables() {
        fine("main { " + row("int v# = 0; ", "", 15) + "}");
        fine("main { " + row("int v# = 0; ", "", 16) + "}");
        fault(3, "main { " + row("int v# = 0; ", "", 16) + "int @w = 0; }");
        fault(3, "main { " + row("int v# = 0; ", "", 16) + "A[world] @w = null; }");
        fault(3, "main { " + row("int v = 0; ", "", 16) + "int @v");
        fault(2, "main { " + row("int v# = 0; ", "", 16) + "int @= 0; }");
        fine("main { " + row("{ int v = 0; } ", "", 16) + "}");
        fault(3, "main { " + row("{ int v = 0; } ", "", 16) + "{ int @v = 0; } }");
        fault(3, "main { " + row("if (1) { int v = 0; } else { int v = 0; } ", "", 8) + "while (0) { int @v = 0; } }");
        for (int p = 0; p <= 6; p++) {
            String head = "class A[o] { int f(" + row("int p#", ", ", p) + ") { ";
            fine(head + row("int v# = 0; ", "", 15 - p) + "} } main { }");
            fine(head + row("int v# = 0; ", "", 16 - p) + "} } main { }");
            fault(3, head + row("int v# = 0; ", "", 16 - p) + "int @w = 0; } } main { }");
            fault(3, head + row("int v# = 0; ", "", 16 - p) + "{ A[o] @w = null; } } } main { }");
            fine(head + row("int v# = 0; ", "", 16 - p) + "} int g() { " + row("int v# = 0; ", "", 16) + "} } main { "
                + row("int v# = 0; ", "", 16) + "}");
        }
        fault(3, "class A[o] { int f() { " + row("int v# = 0; ", "", 16) + "} int g() { " + row("int v# = 0; ", "", 16)
            + "int @w = 0; } } main { }");
    }

    /** As much of all as one TEXT holds: it is told of all of it, and it runs. */
    private static void allFull() {
        StringBuilder text = new StringBuilder();
        for (int c = 0; c < 16; c++) {
            text.append("class C").append((char) ('a' + c)).append("[a,b,c,d,e]where ").append(row("a in b", ",", c == 15 ? 8 : 1)).append("{");
            for (int m = 0; m < 24; m++) {
                text.append("int ").append((char) ('a' + m)).append(";");
            }
            text.append("}");
        }
        text.append("main{Cp[world,world,world,world,world]p=new Cp[world,world,world,world,world];p.x=7;}");
        CHECK.due("it fits", text.length() <= 3000, true);
        OwnerHeap x = CHECK.started(text.toString(), 31, 1);
        for (int c = 0; c < 16; c++) {
            int[] due = {5, -1, 24, 0, c == 15 ? 8 : 1, text.indexOf("C" + (char) ('a' + c) + "[")};
            for (int what = 0; what < 6; what++) {
                CHECK.due("type(" + c + ", " + what + ")", x.type(c, what), due[what]);
            }
        }
        CHECK.due("type(16, 0)", x.type(16, 0), -1);
        CHECK.due("run", x.run(2000), 2);
        CHECK.due("WORDS", x.state(5), 31);
        CHECK.due("the last FIELD", x.field(1, 23), 7);
        CHECK.due("behind it", x.field(1, 24), 0);
        CHECK.due("the last OWNER", x.owner(1, 4), 0);
        CHECK.due("behind it", x.owner(1, 5), -1);
    }

    /** METHODS with PARAMS to a TEXT's end: the last one is as good as the first. */
    private static void manyMethods() {
        StringBuilder text = new StringBuilder();
        for (int c = 0; c < 7; c++) {
            text.append("class C").append(c).append("[o]{");
            for (int m = 0; m < 24; m++) {
                text.append("int ").append((char) ('a' + m)).append(c == 6 && m == 23 ? "(int a,int b,C6[o] c){return a-b;}" : "(int a){}");
            }
            text.append("}");
        }
        text.append("main{C6[world]x=new C6[world];say x.x(9,5,x);say x.a(3);}");
        CHECK.due("it fits", text.length() <= 3000, true);
        OwnerHeap x = CHECK.started(text.toString(), 8, 2);
        CHECK.due("METHODS", x.type(6, 3), 24);
        CHECK.due("up to the call", x.run(4), 1);
        CHECK.due("CLASS", x.call(1, 0), 6);
        CHECK.due("METHOD", x.call(1, 1), 23);
        CHECK.due("the last PARAM", x.variable(1, 2), 1);
        CHECK.due("run", x.run(2000), 2);
        CHECK.due("said", x.said(0), 4);
        CHECK.due("said", x.said(1), 0);
        fault(7, text.toString().replace("x.x(9,5,x)", "x.x(9,5,@7)"));
        fault(7, text.toString().replace("x.x(9,5,x)", "x.x(@x,5,x)"));
        fault(6, text.toString().replace("x.x(9,5,x)", "x.@x(9,5)"));
        fault(7, text.toString().replace("x.a(3)", "x.a(@x)"));
    }

    /** 16 CLASSES, each with FIELDS of the others. */
    private static void fieldsOfAll() {
        StringBuilder text = new StringBuilder();
        for (int c = 0; c < 16; c++) {
            text.append("class C").append(c).append("[o]{int v;C").append((c + 1) % 16).append("[o] n;}");
        }
        text.append("main{C0[world]a=new C0[world];a.n=new C1[world];a.n.n=new C2[world];C15[world]z=new C15[world];z.n=a;z.v=3;}");
        OwnerHeap x = CHECK.started(text.toString(), 100, 1);
        CHECK.due("run", x.run(2000), 2);
        CHECK.due("way(4, 3)", x.way(4, 3), 3);
        CHECK.due("way(3, 4)", x.way(3, 4), -1);
        CHECK.due("CLASS", x.object(4, 0), 15);
    }

    public static void main(String[] args) {
        twelveOpen();
        openInAClass();
        openMixed();
        closedOnes();
        classes();
        names();
        owners();
        ins();
        members();
        params();
        arguments();
        variables();
        allFull();
        manyMethods();
        fieldsOfAll();
        CHECK.end();
    }
}
