/**
 * Promises 3 and 4: every FAULT with its place. In a text here the sign @ (which is taken out) stands
 * ahead of the place that is due.
 */
public final class FaultTest {
    private static final Check CHECK = new Check();

    private static void fault(int number, String marked) {
        judge(number, marked, false);
    }

    private static void fine(String text) {
        judge(0, text, false);
    }

    private static void judge(int number, String marked, boolean trust) {
        CHECK.judged(number, marked, trust);
    }

    /** A METHOD's BLOCK in a CLASS that has a bit of everything. */
    private static String body(String statements) {
        return "class A[o] { int v; int m() { return 1; } int n(A[o] a, int i) { return i; } } "
            + "class B[o,p] is A[o] { A[p] w; A[this] h; int g(A[this] a) { return 1; } A[this] k() { } } "
            + "class C[o,d] { int v; A[this] h; B[o,d] b; int f(int i, A[d] a) {" + statements + "} } main { }";
    }

    private static void tokens() {
        fault(1, "@$ main { }");
        fault(1, "main { }@!");
        fault(1, "main { int a = 1 @! = 2; }");
        fine("main { int a = 1 != 2; }");
        fine("#main { $ }\nmain { # ~ \n }# no line's end");
        fault(1, "main {@\t}");
        fault(1, "main {@\r\n}");
        fault(1, "main { @\u00e9 }");
        fine("main { # \u00e9\n }");
        fine("main { int abcdefghij = 123456789; }");
        fault(1, "main { int @abcdefghijk = 1; }");
        fault(1, "main { int a = @1234567890; }");
        fault(1, "class @Abcdefghijk[o] { } main { }");
        fine("class Abcdefghij[o] { } main { }");
        fine("class A9z[o1] { } main{}");
        fault(2, "main { int a = 12@ab; }");
        fine("main { int a = 000000009; }");
        fault(2, "main { int @if = 1; }");
        fine("main { int iff = 1; int clas = 2; int main1 = 3; }");
        fault(2, "main { int @World = 1; }");
        fault(1, "@main1234567 { }");
        fault(1, "main { } @_");
    }

    private static void rules() {
        fault(2, "@");
        fault(2, "  @");
        fault(2, "main@");
        fault(2, "main { @");
        fault(2, "main { }  # note\n@main { }");
        fault(2, "@{ }");
        fault(2, "main @( )");
        fault(2, "class @a[o] { } main { }");
        fault(2, "class A@{ } main { }");
        fault(2, "class A[@] { } main { }");
        fault(2, "class A[@this] { } main { }");
        fault(2, "class A[o,@] { } main { }");
        fault(2, "class A[o @p] { } main { }");
        fault(2, "class A[o] is @int { } main { }");
        fault(2, "class A[o] where @{ } main { }");
        fault(2, "class A[o] where o in @world { } main { }");
        fault(2, "class A[o] where o in o @is A[o] { } main { }");
        fault(2, "class A[o] where @this in o { } main { }");
        fault(2, "class A[o] { int @} main { }");
        fault(2, "class A[o] { int v@= 1; } main { }");
        fault(2, "class A[o] { int f(@1) { } } main { }");
        fault(2, "class A[o] { int f(int a,@) { } } main { }");
        fault(2, "class A[o] { int f() @; } main { }");
        fault(2, "class A[o] { A[o@.p] v; } main { }");
        fault(2, "class A[o] { A @v; } main { }");
        fault(2, "class A[o] { @return 1; } main { }");
        fault(2, "class A[o] { } @class2 main { }");
    }

    private static void statements() {
        fault(2, "main { @; }");
        fault(2, "main { @else { } }");
        fault(2, "main { if (1) @say 1; }");
        fault(2, "main { if (1) { } else @if (1) { } }");
        fault(2, "main { while @1 { } }");
        fault(2, "main { return@; }");
        fault(2, "main { say 1 @} ");
        fault(2, "main { int a @; }");
        fault(2, "main { int a = @; }");
        fault(2, "main { int a = 1; a@; }");
        fault(2, "main { int a = 1; a.b@; }");
        fault(2, "main { 5@; }");
        fault(2, "main { 5 @= 5; }");
        fault(2, "main { -1@; }");
        fault(2, "main { null.f() + 1@; }");
        fault(2, "main { (null.f())@; }");
        fault(2, "main { int a = 1; (a) @= 2; }");
        fault(2, "main { int a = 1; -a @= 2; }");
        fault(2, "main { int a = 1; a + 1 @= 2; }");
        fault(2, "main { null.f() @= 2; }");
        fault(2, "main { this @= null; }");
        fault(2, "main { null as A[world]@; }");
        fault(2, "main { null as A[world] @= null; }");
        fault(2, "main { new A[world]@; }");
        fault(2, "main { int a = 1; a == 1 @= 2; }");
        fault(2, "main { int a = 1; a = 1 @= 2; }");
        fault(2, "main { say 1 < 2 @< 3; }");
        fault(2, "main { say 1 == 2 @!= 3; }");
        fault(2, "main { say 1 + @+ 2; }");
        fault(2, "main { say 1 * @* 2; }");
        fault(2, "main { say (1@; }");
        fault(2, "main { say (@); }");
        fault(2, "main { null.f(1,@); }");
        fault(2, "main { null.f(@,1); }");
        fault(2, "main { null.@1; }");
        fault(2, "main { null.@this; }");
        fault(2, "main { int a = 1; a@(1); }");
        fault(2, "main { say new @a[world]; }");
        fault(2, "main { say @A[world]; }");
        fault(2, "main { say 1 as @int; }");
        fault(2, "main { say @world; }");
        fine("main { say 1 + - 2 - - - 3 * -4; }");
    }

    /** "also the ; or = behind an E that may not have it": an operator or as makes it another E. */
    private static void notSetNorCalled() {
        for (String sign : new String[] {"+", "-", "*", "/", "%", "<", "==", "!="}) {
            fault(2, "main { int a = 1; a " + sign + " a @= 2; }");
            fault(2, "main { int a = 1; a.v " + sign + " a.v @= 2; }");
            fault(2, "main { null.f() " + sign + " null.f()@; }");
            fault(2, "main { null.f() " + sign + " 1@; }");
        }
        fault(2, "main { a as A[world] @= null; }");
        fault(2, "main { a.n as A[world] @= null; }");
        fault(2, "main { a.f() as A[world]@; }");
        fault(2, "main { a.f() as A[world] @= null; }");
        fault(2, "main { a.n@; }");
        fault(2, "main { a.f() @= null; }");
        fault(2, "main { (a.n) @= null; }");
        fault(2, "main { -a.f()@; }");
        fault(2, "main { new A[world] @= null; }");
        fault(2, "main { say new @int; }");
        fault(2, "main { say null as @int; }");
        fine("class A[o] { int v; A[o] n; A[o] f() { } } main { A[world] a = null; a = a; a.n = a; (a).n = a; a.f(); (a).f(); "
            + "a.f().n = a; a.n.f(); a.f().f(); (a as A[world]).n = a; a as A[world].n = a; new A[world].f(); }");
    }

    /** The first along the text; what is judged comes behind all that is read. */
    private static void firstAlong() {
        fault(2, "class A[o] { Q[o] v; } class A[o] { } main { } @main");
        fault(2, "main { @; $ }");
        fault(1, "main { @$ ; }");
        fault(2, "main { say 1@}$");
        fault(4, "class A[o] { Q[o] v; } class @A[o] { } main { }");
        fault(4, "class A[o,@o] is Q[o] { } main { }");
        fault(4, "class A[o] is Q[o] { } class @A[o] { } main { }");
        fault(5, "class A[o] where x in y { } class B[o] is @Q[o] { } main { }");
        fault(11, "class A[o] where x in y { } class B[o] @is A[world] { } main { }");
        fault(5, "class A[o] { int v; int v; } class B[o] where @x in o { } main { }");
        fault(4, "class A[o] { int f() { say null; } int @f() { } } main { }");
        fault(4, "class B[o] is A[o] { int @v; } class A[o] { int v; int f() { say null; } } main { }");
        fault(7, "class A[o] { int f() { @say null; } } main { say null; }");
        fault(7, "class A[o] { int f() { } } main { @say null; }");
    }

    private static void twice() {
        fault(4, "class A[o] { } class B[o] { } class @A[p] { } main { }");
        fault(4, "class A[o,p,@o] { } main { }");
        fault(4, "class A[o] { int a; A[o] @a; } main { }");
        fault(4, "class A[o] { int a() { } int @a; } main { }");
        fault(4, "class A[o] { int a; int @a() { } } main { }");
        fault(4, "class A[o] { int f(int a, A[o] @a) { } } main { }");
        fine("class A[o] { int f(int f, int o) { } int o; } main { }");
        fault(4, "class A[o] { int a; } class B[o] is A[o] { } class C[o] is B[o] { int @a; } main { }");
        fault(4, "class A[o] { int a() { } } class B[o] is A[o] { int @a; } main { }");
        fault(4, "class A[o] { int a; } class B[o] is A[o] { int @a() { } } main { }");
        fault(4, body("int @i = 1;"));
        fault(4, body("int x = 1; { int @x = 2; }"));
        fault(4, body("A[d] @a = this;"));
        fine(body("{ int x = 1; } int x = 2; { int y = x; } int y = 3; int v = 1; int d = 2;"));
        fault(5, body("int x = @x;"));
        fault(5, body("@Q[o] a = null;"));
        fault(4, body("A[d] @a = q;"));
    }

    private static void unknown() {
        fault(5, "class A[o] is @B[o] { } main { }");
        fault(5, "class A[o] is B[@this] { } class B[o] { } main { }");
        fault(5, "class A[o] is B[o,@this] { } class B[o,p] { } main { }");
        fault(5, "class A[o] is B[@p] { } class B[p] { } main { }");
        fault(5, "class A[o] where o in @p { } main { }");
        fault(5, "class A[o] { @B[o] b; } main { }");
        fault(5, "class A[o] { A[@p] b; } main { }");
        fault(5, "class A[o] { A[o] f(A[@p] b) { } } main { }");
        fault(5, "class A[o] { } main { A[@this] a = null; }");
        fault(5, "class A[o] { } main { A[@o] a = null; }");
        fault(5, "main { say @this == null; }");
        fault(5, "main { @this.v = 1; }");
        fault(5, "main { say @a; }");
        fault(5, "main { @a = 1; }");
        fault(5, "main { { int a = 1; } say @a; }");
        fault(5, "main { if (1) { int a = 1; } else { say @a; } }");
        fault(5, "main { int a = @a; }");
        fault(5, body("say this.@x;"));
        fault(5, body("say this.@f;"));
        fault(5, body("this.@v();"));
        fault(5, body("say @v;"));
        fault(5, body("this.b.@f(1, null);"));
        fine(body("say this.b.v; say this.b.m();"));
        fault(5, body("A[@x] y = null;"));
        fault(5, body("say new @X[o] == null;"));
        fault(5, body("say null as @X[o] == null;"));
        fault(5, body("A[world] y = new A[@i];"));
    }

    private static void numbersOf() {
        fault(6, "class A[o] { @A[o,o] a; } main { }");
        fault(6, "class A[o] is @B[o] { } class B[o,p] { } main { }");
        fault(6, "class A[o,p] { @A[x] a; } main { }");
        fault(6, body("this.@f(1);"));
        fault(6, body("this.@f();"));
        fault(6, body("this.@f(1, null, x);"));
        fault(6, body("this.b.@m(x);"));
        fault(6, body("say null as @A[o,o] == null;"));
    }

    private static void kinds() {
        fault(7, body("int x @= null;"));
        fault(7, body("int x @= this;"));
        fault(7, body("A[o] x @= 1;"));
        fault(7, body("A[o] x @= this.b.w;"));
        fine(body("A[o] x = this.b; A[d] y = this.b.w; y = null;"));
        fault(7, body("B[o,d] x @= new A[o];"));
        fault(7, body("A[d] x @= this.b;"));
        fault(7, body("this.b @= new B[o,o];"));
        fault(7, body("i @= a;"));
        fault(7, body("this.v @= null;"));
        fault(7, body("this.f(@null, a);"));
        fault(7, body("this.f(1, @(this.b));"));
        fault(7, body("this.f(@this, x);"));
        fault(5, body("this.f(1 + @x, this);"));
        fault(7, body("@return a;"));
        fault(7, body("@return null;"));
        fault(7, "main { @return null; }");
        fine("class A[o] { A[o] f() { return null; } A[o] g() { return this; } } main { return 1; }");
        fault(7, "class A[o] { A[o] f() { @return 0; } } main { }");
        fault(7, body("say a @+ 1;"));
        fault(7, body("say 1 @- a;"));
        fault(7, body("say 1 @* null;"));
        fault(7, body("say null @/ 1;"));
        fault(7, body("say a @% a;"));
        fault(7, body("say a @< a;"));
        fault(7, body("say @-a;"));
        fault(7, body("say -@-null;"));
        fault(7, body("@if (a) { say x; }"));
        fault(7, body("@while (null) { }"));
        fault(7, body("@say a;"));
        fault(7, body("say a @== 1;"));
        fault(7, body("say 1 @!= null;"));
        fine(body("say a == null; say null == null; say a != this; say null != a; say 1 == 2;"));
        fault(7, body("say i.@v;"));
        fault(7, body("say null.@v;"));
        fault(7, body("say (null).@v();"));
        fault(7, body("1.@v = 2;"));
        fault(7, body("say 1 @as A[o] == null;"));
        fault(5, body("say 1 as @X[o] == null;"));
        fine(body("A[o] x = null as A[o]; B[o,d] y = x as B[o,d]; C[o,d] z = y as C[o,d];"));
        fault(7, body("say 1 @+ null + x;"));
        fault(5, body("say 1 + @x + null;"));
        fault(5, body("say null < @x;"));
    }

    /** NESTED: what is known in the CLASS, and what the INS of the KIND's CLASS tell. */
    private static void owners() {
        String two = "class T[o,p] { } class I[o,p,q] where q in p { } ";
        fine(two + "class C[o,d,e] { T[this,o] a; T[this,this] b; T[this,d] c; T[o,e] f; T[d,world] g; T[d,d] h; } main { }");
        fault(8, two + "class C[o,d,e] { @T[o,this] a; } main { }");
        fault(8, two + "class C[o,d,e] { @T[d,o] a; } main { }");
        fault(8, two + "class C[o,d,e] { @T[d,e] a; } main { }");
        fault(8, two + "class C[o,d,e] { @T[world,o] a; } main { }");
        fine(two + "class C[o,d,e] where d in e { T[d,e] a; I[o,e,d] b; I[this,d,d] c; } main { }");
        fault(8, two + "class C[o,d,e] where d in e { @I[o,d,e] b; } main { }");
        fine(two + "class C[o,d,e] where d in e, e in o { T[d,o] a; I[o,d,e] b; } main { }");
        fine(two + "class C[o,d,e] { I[o,world,d] a; I[this,d,o] b; } main { }");
        fault(8, two + "class C[o,d,e] { @I[o,d,world] a; } main { }");
        fine(two + "main { T[world,world] t = new T[world,world]; I[world,world,world] i = null; }");
        fault(8, two + "class C[o,d] is @I[o,d,world] { } main { }");
        fault(8, two + "class C[o,d] is @I[o,o,d] { Q[o] q; } main { }");
        fine(two + "class C[o,d] is I[o,d,o] { } main { }");
        fault(8, two + "class C[o,d] { int f(int a, @T[d,o] b) { } } main { }");
        fault(8, two + "class C[o,d] { int f() { @T[d,o] b = x; } } main { }");
        fault(8, two + "class C[o,d] { int f() { say new @T[d,o] == null; } } main { }");
        fault(8, two + "class C[o,d] { int f() { say 1 as @T[d,o] == null; } } main { }");
        judge(0, two + "class C[o,d] is I[o,o,d] { T[d,o] a; int f(T[world,this] b) { b = new T[world,this]; } } main { }", true);
        judge(4, two + "class C[o,d] { T[d,o] a; int @a; } main { }", true);
        judge(7, two + "class C[o,d] { int f() { T[d,o] b @= new T[o,d]; } } main { }", true);
    }

    /** "its first OWNER is IN each of its others": each of four. */
    private static void eachOther() {
        String text = "class T[a,b,c,d,e] { } class C[o,p,q] where p in q { KIND f; } main { }";
        fine(text.replace("KIND", "T[p,q,world,p,q]"));
        fine(text.replace("KIND", "T[o,q,world,p,o]"));
        fine(text.replace("KIND", "T[this,q,this,p,o]"));
        for (String first : new String[] {"p", "q", "world", "o"}) {
            for (int i = 1; i < 5; i++) {
                String[] owners = {first, "world", "world", "world", "world"};
                fine(text.replace("KIND", "T[" + String.join(",", owners) + "]"));
                owners[i] = first.equals("o") ? "this" : "o";
                fault(8, text.replace("KIND", "@T[" + String.join(",", owners) + "]"));
            }
        }
    }

    /** "what its CLASS's INS tell holds of its OWNERS": each of eight, the first and the last, too. */
    private static void eachIn() {
        String[] ins = {"b in b", "c in b", "c in c", "d in c", "d in d", "e in d", "e in e", "e in b"};
        for (int k = 0; k < 8; k++) {
            StringBuilder told = new StringBuilder();
            for (int i = 0; i < 8; i++) {
                told.append(i == 0 ? "" : ", ").append(i == k ? "e in c" : "a in b");
            }
            String text = "class Z[o] { } class I[a,b,c,d,e] where " + told + " { } class C[o,p,q] { KIND f; } main { }";
            fine(text.replace("KIND", "I[o,p,p,q,p]"));
            fault(8, text.replace("KIND", "@I[o,p,p,q,q]"));
            fine(text.replace("KIND", "I[o,q,q,p,q]"));
            fine(text.replace("KIND", "I[o,q,world,p,p]"));
            fine(text.replace("KIND", "I[o,q,p,p,o]"));
            fault(8, text.replace("KIND", "@I[o,q,o,p,p]"));
        }
        String all = "class I[a,b,c,d,e] where " + String.join(", ", ins) + " { } class C[o,p,q] where q in p { KIND f; } main { }";
        fine(all.replace("KIND", "I[o,p,p,q,q]"));
        fine(all.replace("KIND", "I[o,world,p,q,o]"));
        fault(8, all.replace("KIND", "@I[o,p,q,p,q]"));
        fault(8, all.replace("KIND", "@I[o,p,p,q,p]"));
        fine(all.replace("KIND", "I[this,p,q,o,this]"));
        fault(8, all.replace("KIND", "@I[o,p,q,o,world]"));
    }

    /** A TYPE FITS those from above, also that of the first CLASS and of the last. */
    private static void fitting() {
        StringBuilder text = new StringBuilder("class C0[o] is C1[o] { int f(C0[o] a) { TOLD } } ");
        for (int c = 1; c < 16; c++) {
            text.append("class C").append(c).append(c == 15 ? "[o]" : "[o] is C" + (c + 1) + "[o]").append(" { } ");
        }
        text.append("main { }");
        for (int c = 0; c < 16; c++) {
            fine(text.toString().replace("TOLD", "C" + c + "[o] b = a; b = new C0[o]; b = this; b = null;"));
            fault(c == 0 ? 0 : 7, text.toString().replace("TOLD", "C" + c + "[o] b = a; a " + (c == 0 ? "" : "@") + "= b;"));
            fault(7, text.toString().replace("TOLD", "C" + c + "[world] b @= a;"));
            fine(text.toString().replace("TOLD", "C" + c + "[this] b = new C0[this];"));
        }
    }

    private static void overs() {
        String above = "class A[o,p] { int f(A[p,p] a, int i) { } A[o,p] g() { } A[this,p] h() { } } ";
        fine(above + "class B[o,q] is A[o,q] { int f(A[q,q] b, int j) { } A[o,q] g() { } A[this,q] h() { } } main { }");
        fine(above + "class B[o] is A[o,world] { int f(A[world,world] b, int j) { } A[o,world] g() { } } main { }");
        fault(9, above + "class B[o,q] is A[o,q] { int @f(A[o,q] b, int j) { } } main { }");
        fault(9, above + "class B[o,q] is A[o,q] { int @f(A[q,q] b) { } } main { }");
        fault(9, above + "class B[o,q] is A[o,q] { int @f(A[q,q] b, int j, int k) { } } main { }");
        fault(9, above + "class B[o,q] is A[o,q] { int @f(int j, A[q,q] b) { } } main { }");
        fault(9, above + "class B[o,q] is A[o,q] { int @g() { } } main { }");
        fault(9, above + "class B[o,q] is A[o,q] { B[o,q] @g() { } } main { }");
        fault(9, above + "class B[o,q] is A[o,q] { A[o,q] @h() { } } main { }");
        fault(9, above + "class B[o,q] is A[o,q] { } class C[o] is B[o,o] { A[o,world] @g() { } } main { }");
        fine(above + "class B[o,q] is A[o,q] { } class C[o] is B[o,o] { A[o,o] g() { } } main { }");
        fault(9, "class B[o] is A[o] { int @f() { } } class A[o] { A[o] f() { } } main { }");
        String six = "A[o] a, int b, A[o] c, int d, A[o] e, int f";
        String from = "class A[o] { int f(" + six + ") { } int g(A[o] a) { } } ";
        fine(from + "class B[o] is A[o] { int f(" + six + ") { } int h(int a) { } } main { }");
        fine(from + "class B[o] is A[o] { int g(A[o] b) { } int h(int a, int b) { } } main { }");
        String[] types = six.split(", ");
        for (int i = 0; i < 6; i++) {
            String[] other = types.clone();
            other[i] = i % 2 == 0 ? "int x" : "A[o] x";
            fault(9, from + "class B[o] is A[o] { int @f(" + String.join(", ", other) + ") { } } main { }");
            other[i] = i % 2 == 0 ? "A[world] x" : "B[o] x";
            fault(9, from + "class B[o] is A[o] { int @f(" + String.join(", ", other) + ") { } } main { }");
        }
        fault(9, from + "class B[o] is A[o] { int @f(A[o] a, int b, A[o] c, int d, A[o] e) { } } main { }");
        fault(9, from + "class B[o] is A[o] { int @g() { } } main { }");
        fault(9, from + "class B[o] is A[o] { int @g(A[o] a, A[o] b) { } } main { }");
        fault(9, "class A[o] { int f() { } } class B[o] is A[o] { int @f(int a) { } } main { }");
    }

    /** "9 OVER: a METHOD with the NAME of one from above": the nearest, wherever it is told. */
    private static void nearestOver() {
        String a = "class A[o] { int g() { } } ";
        String b = "class B[o] is A[o] { int f() { } } ";
        String c = "class C[o] is B[o] { } ";
        for (String d : new String[] {"class D[o] is B[o] { int @f(int i) { } } ", "class D[o] is C[o] { A[o] @f() { } } "}) {
            fault(9, a + b + c + d + "main { }");
            fault(9, d + c + b + a + "main { }");
            fine(d.replace("@f(int i)", "f()").replace("A[o] @f", "int f") + c + b + a + "main { }");
        }
        String over = "class B[o] is A[o] { int @g(int i) { } } ";
        fault(9, "class C[o] is B[o] { int g(int i) { } } " + over + a + "main { }");
        fault(9, a + over + "class C[o] is B[o] { int g() { } } main { }");
        fault(9, "class C[o] is B[o] { int @g() { } } " + over.replace("@", "") + a + "main { }");
    }

    /** From the topmost of 16 CLASSES to the undermost. */
    private static void farAbove() {
        StringBuilder text = new StringBuilder("class C0[o] { int v; int f(C0[o] a) { } } ");
        for (int c = 1; c < 15; c++) {
            text.append("class C").append(c).append("[o] is C").append(c - 1).append("[o] { } ");
        }
        String under = text + "class C15[o] is C14[o] { MEMBER } main { C15[world] c = new C15[world]; c.v = 1; c.f(c); }";
        fine(under.replace("MEMBER", ""));
        fine(under.replace("MEMBER", "int f(C0[o] b) { }"));
        fault(4, under.replace("MEMBER", "int @v;"));
        fault(4, under.replace("MEMBER", "int @v() { }"));
        fault(4, under.replace("MEMBER", "int @f;"));
        fault(9, under.replace("MEMBER", "int @f(C15[o] b) { }"));
        fault(9, under.replace("MEMBER", "C0[o] @f(C0[o] b) { }"));
        fault(11, "class C0[o] @is C15[o] { } " + row("class C# [o] is C", 1, 16) + "main { }");
        fine("class C0[o] { } " + row("class C# [o] is C", 1, 16) + "main { }");
    }

    /** CLASSES one above the other, each is the one ahead of it. */
    private static String row(String part, int from, int to) {
        StringBuilder made = new StringBuilder();
        for (int c = from; c < to; c++) {
            made.append(part.replace("#", "" + c)).append(c - 1).append("[o] { } ");
        }
        return made.toString();
    }

    private static void hidden() {
        fine(body("say this.h == null; A[this] x = this.h; this.h = x; say this.h.v; say this.b.w == null;"));
        fault(10, body("say this.b.@h == null;"));
        fault(10, body("this.b.@h = null;"));
        fault(10, body("this.b.@g(x);"));
        fault(10, body("this.b.@g();"));
        fault(10, body("this.b.@k();"));
        fault(10, body("C[o,d] x = this; say x.@h == null;"));
        fault(10, body("say (this).@h == null;"));
        fault(10, body("say (this as C[o,d]).@h == null;"));
        fine("class A[o] { A[this] h; } class B[o] is A[o] { int f() { this.h = new A[this]; } } main { }");
        fault(10, "class A[o] { A[this] h; } main { A[world] a = null; a.@h = null; }");
        fault(10, "class A[o] { A[this] f() { } } main { new A[world].@f(); }");
        String many = "class A[o] { int f(int a, int b, int c, int d, int e, int f) { } int g(A[this] a) { } int h() { } "
            + "int k(int a, int b, int c, int d, int e, A[this] f) { } A[this] l(int a) { } } main { A[world] a = new A[world]; ";
        fine(many + "a.f(1, 2, 3, 4, 5, 6); a.h(); }");
        fault(10, many + "a.@g(null); }");
        fault(10, many + "a.@k(1, 2, 3, 4, 5, null); }");
        fault(10, many + "a.@l(1); }");
        for (int i = 0; i < 5; i++) {
            String kind = "A[world,world,world,world,world]";
            String[] owners = {"a", "b", "c", "d", "e"};
            owners[i] = "this";
            String hides = "class A[a,b,c,d,e] { A[" + String.join(",", owners) + "] h; int f(int i, A[" + String.join(",", owners)
                + "] a) { } } main { " + kind + " a = null; ";
            judge(10, hides + "say a.@h == null; }", true);
            judge(10, hides + "a.@f(1, null); }", true);
        }
    }

    private static void aboves() {
        fault(11, "class A[o] @is B[world] { } class B[o] { } main { }");
        fault(11, "class A[o,p] @is B[p,o] { } class B[o,p] { } main { }");
        fine("class A[o,p] is B[o,p] { } class B[o,p] { } main { }");
        fine("class A[o,p] is B[o,world] { } class B[o,p] { } main { }");
        fault(11, "class A[o] @is A[o] { } main { }");
        fault(11, "class D[o] is A[o] { } class A[o] @is B[o] { } class B[o] is A[o] { } main { }");
        fault(5, "class A[o] is A[o] { } class B[o] is @Q[o] { } main { }");
        fault(11, "class A[o] @is A[o] where x in y { } main { }");
        judge(11, "class A[o] @is A[o] { } main { }", true);
    }

    public static void main(String[] args) {
        tokens();
        rules();
        statements();
        notSetNorCalled();
        firstAlong();
        twice();
        unknown();
        numbersOf();
        kinds();
        owners();
        eachOther();
        eachIn();
        fitting();
        overs();
        nearestOver();
        farAbove();
        hidden();
        aboves();
        CHECK.end();
    }
}
