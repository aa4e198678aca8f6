import java.util.List;

/**
 * Terms 1, the order in which FAULTS are met: of two in one TEXT the one that is due. The sign @ in a
 * text (which is taken out) stands ahead of the place that is due.
 */
public final class OrderTest {
    private static final Check CHECK = new Check();

    /** A place of the TEXT below: the FAULT that it has if bad stands there, and its rank as they are met. */
    private record Slot(int at, int rank, int number, String bad) { }

    private static final String[] PARTS = {
        "class A[", "o,p", "] ", "is Z[o,p]", " ", "where p in p", " { ", "Z[o,p] f;", " int m(", "int i, int j", ") { ",
        "return 1;", " } ", "int q;", " } class ", "B", "[", "o,p", "] ", "is Z[o,p]", " { int f; ", "int r;",
        " int n() { ", "return 1;", " } } class C[o,p] ", "is Z[o,p]", " ", "where o in p", " { ", "Z[o,p] f;", " int m() { ",
        "say 1;", " } } ", "class D[o] is E[o] { } class E[o] { }", " class Z[o,p] { int z; int g() { } } "
        + "class Y[o,p] where p in o { } main { ", "say 1;", " }",
    };

    private static final List<Slot> SLOTS = List.of(
        // (a) CLASSES in order: the CLASSNAME, the NAMES
        new Slot(1, 0, 4, "o,@o"), new Slot(15, 1, 4, "@A"), new Slot(17, 2, 4, "p,@p"),
        // (b) the KIND behind is, but for 8, then 11
        new Slot(3, 3, 5, "is @X[o]"), new Slot(3, 4, 6, "is @Z[o]"), new Slot(3, 5, 5, "is Z[o,@q]"),
        new Slot(3, 6, 11, "@is Z[p,o]"), new Slot(19, 7, 5, "is Z[@this,o]"), new Slot(19, 8, 11, "@is Z[world,world]"),
        new Slot(25, 9, 6, "is @Z[o,p,p]"), new Slot(25, 10, 11, "@is Z[p,p]"),
        // then CLASSES in order: 11 if it is above itself
        new Slot(33, 11, 11, "class D[o] @is E[o] { } class E[o] is D[o] { }"),
        // (c) NAMES of INS
        new Slot(5, 12, 5, "where @x in p"), new Slot(5, 13, 5, "where p in o, o in @x"), new Slot(27, 14, 5, "where o in @p1"),
        // (d) 8 of the KIND behind is; MEMBERS in order: TYPE, NAME, PARAMS
        new Slot(3, 15, 8, "is @Y[o,p]"), new Slot(7, 16, 5, "@X[o] f;"), new Slot(7, 17, 8, "@Z[p,o] f;"),
        new Slot(9, 18, 4, "int i, Z[o,p] @i"), new Slot(13, 19, 4, "int @m;"), new Slot(19, 20, 8, "is @Y[o,p]"),
        new Slot(21, 21, 6, "@Z[o] f;"), new Slot(21, 22, 4, "int @f;"), new Slot(25, 23, 8, "is @Y[o,p]"),
        new Slot(29, 24, 8, "@Y[o,p] f;"),
        // (e) CLASSES, their MEMBERS in order: 4 and 9 against what is from above
        new Slot(7, 25, 4, "int @z;"), new Slot(13, 26, 9, "int @g(int i) { }"), new Slot(21, 27, 9, "Z[o,p] @g() { }"),
        new Slot(29, 28, 4, "int @g;"),
        // (f) METHODS' BLOCKS, in order of CLASSES and MEMBERS, then main's
        new Slot(11, 29, 7, "@return null;"), new Slot(13, 30, 5, "int q() { say @x; }"), new Slot(23, 31, 4, "int a = 1; int @a = 2;"),
        new Slot(31, 32, 10, "Z[o,p] a = null; B[o,p] b = null; b.@h();"), new Slot(35, 33, 7, "@say null;"));

    private static String text(Slot... slots) {
        StringBuilder made = new StringBuilder();
        for (int i = 0; i < PARTS.length; i++) {
            String part = PARTS[i];
            for (Slot slot : slots) {
                part = slot.at() == i ? slot.bad() : part;
            }
            made.append(part);
        }
        // A METHOD of B that others can't call, for 10.
        return made.toString().replace(" int n() {", " int h(Z[this,p] z) { } int n() {");
    }

    /** "Else the first that is met, at its place, as all is JUDGED in this order". */
    private static void ofTwoTheFirst() {
        CHECK.fine(text());
        for (Slot one : SLOTS) {
            CHECK.fault(one.number(), text(one));
            for (Slot other : SLOTS) {
                if (one.rank() < other.rank() && one.at() != other.at()) {
                    Slot unmarked = new Slot(other.at(), other.rank(), other.number(), other.bad().replace("@", ""));
                    CHECK.fault(one.number(), text(one, unmarked));
                }
            }
        }
    }

    /** FAULTS 1 to 3 are the first along the text, ahead of all that is JUDGED. */
    private static void readFirst() {
        for (Slot slot : SLOTS) {
            String bad = text(slot).replace("@", "");
            CHECK.fault(2, bad + "@;");
            CHECK.fault(1, bad + "@$");
            CHECK.fault(3, bad.substring(0, bad.length() - 1) + "{".repeat(11) + "@{");
        }
        CHECK.fault(1, "@$ ; {{{{{{{{{{{{{");
        CHECK.fault(2, "main { @; $");
        CHECK.fault(3, "main {{{{{{{{{{{{@{ ; $");
        CHECK.fault(2, "main {{{{{{{{{{{@; {{{ $");
        CHECK.fault(1, "main {{{{{{{{{{{{@$ {{{ ;");
        CHECK.fault(2, "main {{{{{{{{{{{{ say 1 @{ $");
        CHECK.fault(2, "main {{{{{{{{{{{{ say 1 @( $");
        CHECK.fault(2, "main {{{{{{{{{{{{ if @- $");
    }

    /** "A KIND is JUDGED so: 5 .. 6 .. 5 its OWNERS from the left; 8", wherever it stands. */
    private static void ofAKind() {
        String head = "class T[o,p] { } class B[o,p] ";
        String[] places = {
            "{ KIND f; } main { }", "{ KIND f() { } } main { }", "{ int f(int i, KIND x) { } } main { }",
            "{ int f() { KIND x = null; } } main { }", "{ int f() { say new KIND == null; } } main { }",
            "{ int f() { say null as KIND == null; } } main { }",
        };
        for (String place : places) {
            CHECK.fine(head + place.replace("KIND", "T[o,p]"));
            CHECK.fault(5, head + place.replace("KIND", "@X[o,x,world]"));
            CHECK.fault(5, head + place.replace("KIND", "@X[p,o]"));
            CHECK.fault(6, head + place.replace("KIND", "@T[x]"));
            CHECK.fault(6, head + place.replace("KIND", "@T[x,y,z]"));
            CHECK.fault(5, head + place.replace("KIND", "T[@x,y]"));
            CHECK.fault(5, head + place.replace("KIND", "T[p,@y]"));
            CHECK.fault(8, head + place.replace("KIND", "@T[p,o]"));
            CHECK.judged(0, head + place.replace("KIND", "T[p,o]"), true);
            CHECK.judged(5, head + place.replace("KIND", "T[p,@y]"), true);
        }
        CHECK.fault(5, head + "is @X[this] { } main { }");
        CHECK.fault(6, head + "is @T[this] { } main { }");
        CHECK.fault(5, head + "is T[@this,x] { } main { }");
        CHECK.fault(5, head + "is T[p,@this] { } main { }");
        CHECK.fault(11, head + "@is T[p,o] { } main { }");
        CHECK.fault(5, "class T[o] { } main { T[@o] t = x; }");
        CHECK.fault(5, "class T[o,p] { } main { T[world,@this] t = x; }");
    }

    private static void met(int number, String marked) {
        CHECK.fault(number, "class A[o] { int v; A[o] n; A[this] h; int m() { } int k(A[o] a, int i) { } int s(A[this] a) { } } "
            + "class C[o,d] { int f(int i, A[o] a) {" + marked + "} } main { }");
    }

    /** "of TYPE NAME = E the TYPE, 4, E, 7". */
    private static void ofAVariable() {
        met(5, "@X[o] a = x + null;");
        met(6, "@A[o,o] a = x;");
        met(8, "@C[d,o] a = x;");
        met(4, "A[o] @a = x;");
        met(5, "A[o] b = @x;");
        met(5, "A[o] b = 1 + @x;");
        met(7, "A[o] b @= 1 + 2;");
        met(7, "int b @= a;");
        met(5, "int b = @b; say x;");
    }

    /** "of E = E both, then 7"; "parts of an E ahead of what is asked of it". */
    private static void ofSetting() {
        met(5, "@x = y;");
        met(5, "i = @y;");
        met(7, "i @= null;");
        met(5, "@x.v = y;");
        met(5, "a.@x = y;");
        met(7, "i.@v = y;");
        met(10, "a.@h = y;");
        met(5, "a.v = @y;");
        met(7, "a.v @= a;");
        met(7, "a.n @= 1;");
        met(7, "a.n.v @= a;");
        met(5, "a.n.@x = y;");
        met(7, "a.m().@x = y;");
    }

    /** "of as the E, the KIND, then 7". */
    private static void ofAs() {
        met(5, "say @x as X[o] == 1;");
        met(5, "say i as @X[o] == 1;");
        met(6, "say i as @A[o,o] == 1;");
        met(5, "say i as A[@x] == 1;");
        met(8, "say i as @C[d,o] == 1;");
        met(7, "say i @as A[o] == 1;");
        met(7, "say a as A[o] @== 1;");
        met(7, "say (i + 1) @as A[o] == 1;");
        met(7, "say null as A[o] as A[o] @== 1;");
    }

    /** "of a call or FIELD: 7, 5, 10, 6, then each of ARGUMENTS, and whether it FITS". */
    private static void ofAMember() {
        met(5, "@x.y(z);");
        met(7, "i.@y(z);");
        met(7, "null.@y(z);");
        met(5, "a.@y(z);");
        met(5, "a.@v(z);");
        met(5, "say a.@m;");
        met(10, "a.@s();");
        met(10, "a.@s(x, y);");
        met(10, "say a.@h.x;");
        met(6, "a.@k(x);");
        met(6, "a.@k(x, y, z);");
        met(5, "a.k(@x, y);");
        met(7, "a.k(@i, y);");
        met(5, "a.k(a, @y);");
        met(7, "a.k(null, @null);");
        met(7, "a.k(@1 + 2, y);");
        met(7, "a.k(@-i, y);");
        met(7, "a.k(@(1), y);");
        met(7, "a.k(a.n, @a.n);");
        met(7, "a.k(a, a.k(@1, x));");
        met(6, "a.k(a, a.@k());");
        met(7, "a.k(null, i).@x = 1;");
        met(5, "this.@v = x;");
    }

    /** Both sides ahead of what an operator asks; from the left. */
    private static void ofOperators() {
        for (String sign : new String[] {"+", "-", "*", "/", "%", "<"}) {
            met(5, "say @x " + sign + " y;");
            met(5, "say null " + sign + " @y;");
            met(7, "say null @" + sign + " 1;");
            met(7, "say 1 @" + sign + " a;");
            met(7, "say a @" + sign + " a;");
        }
        for (String sign : new String[] {"==", "!="}) {
            met(5, "say @x " + sign + " y;");
            met(5, "say 1 " + sign + " @y;");
            met(7, "say null @" + sign + " 1;");
            met(7, "say 1 @" + sign + " a;");
        }
        met(7, "say a @+ 1 + x;");
        met(7, "say a @* 1 * x;");
        met(7, "say 1 + a @* 1 + x;");
        met(5, "say a + 1 * @x;");
        met(7, "say a @< 1 + 1;");
        met(7, "say 1 @+ a < x;");
        met(7, "say @-a + x;");
        met(7, "say -@-a;");
        met(5, "say -@x;");
        met(7, "say - (1 @+ a);");
    }

    /** "numbers are wanted: .. behind if while say", behind what their E has itself, ahead of their BLOCKS. */
    private static void ofStatements() {
        met(5, "if (@x) { say y; }");
        met(7, "@if (a) { say y; }");
        met(5, "if (1) { say @y; } else { say z; }");
        met(5, "if (1) { } else { say @z; } say y;");
        met(5, "while (@x) { say y; }");
        met(7, "@while (null) { say y; }");
        met(5, "while (0) { say @y; } say z;");
        met(5, "say @x;");
        met(7, "@say a; say x;");
        met(5, "return @x;");
        met(7, "@return a; say x;");
        met(7, "@return null;");
        met(5, "{ { say @x; } say y; }");
    }

    public static void main(String[] args) {
        ofTwoTheFirst();
        readFirst();
        ofAKind();
        ofAVariable();
        ofSetting();
        ofAs();
        ofAMember();
        ofOperators();
        ofStatements();
        CHECK.end();
    }
}
