import java.util.ArrayList;
import java.util.List;
import java.util.Random;
import java.util.regex.Matcher;
import java.util.regex.Pattern;

/**
 * TEXTS made at random: whatever they are, no call throws, the FAULT and its place are such as can be, a
 * refused TEXT leaves the PROGRAM, and "what the judge lets through makes no way of fields to an object
 * past its owner". The seed is fixed: each run of this test is the same.
 */
public final class AnyTextTest {
    private static final Check CHECK = new Check();
    private static final int[] NUMBERS = {Integer.MIN_VALUE, -3, -2, -1, 0, 1, 2, 3, 4, 7, 15, 16, 40, 199, 200, 2000, 4000, Integer.MAX_VALUE};
    private static final String[] TOKENS = ("class is where in main int null this world new if else while return say as "
        + "A B C D o p q a b x f g v w h n it 0 1 2 9 { } ( ) [ ] , ; . = == != < + - * / %").split(" ");
    private static final String[] OWNERS = {"this", "world", "o", "p", "q"};
    private static final String[] PROGRAMS = {
        "class A [ o ] { int v ; A [ o ] n ; A [ this ] h ; A [ world ] w ; int f ( A [ o ] x ) { this . h = new A [ this ] ; this . h . n = new A [ this ] ; "
        + "this . n = x ; this . w = new A [ world ] ; this . v = this . v + 1 ; if ( this . v < 3 ) { this . h . f ( this . h . n ) ; } return this . v ; } } "
        + "class B [ o , p ] is A [ o ] { A [ p ] it ; B [ o , p ] b ; B [ this , p ] c ; B [ this , o ] d ; int f ( A [ o ] x ) { this . c = new B [ this , p ] ; "
        + "this . c . it = this . it ; this . d = new B [ this , o ] ; this . d . it = x ; this . b = new B [ o , p ] ; return this . c . it == null ; } } "
        + "main { A [ world ] a = new A [ world ] ; a . f ( a ) ; B [ world , world ] b = new B [ world , world ] ; b . it = a ; b . f ( a ) ; "
        + "say b . v ; a = b ; b = a as B [ world , world ] ; a . f ( null ) ; }",
        "class R [ o ] { int v ; R [ o ] s ; } class K [ o , p ] where o in p { R [ p ] it ; K [ o , p ] n ; R [ o ] mine ; int put ( R [ p ] r ) { this . it = r ; "
        + "this . n = new K [ o , p ] ; this . mine = new R [ o ] ; } } class W [ o , p ] where o in p { R [ this ] r ; K [ this , o ] k ; K [ this , this ] l ; K [ o , p ] m ; "
        + "W [ this , o ] w ; int go ( int i , R [ o ] x ) { this . r = new R [ this ] ; this . k = new K [ this , o ] ; this . l = new K [ this , this ] ; "
        + "this . m = new K [ o , p ] ; this . k . put ( x ) ; this . l . put ( this . r ) ; this . m . put ( new R [ p ] ) ; "
        + "while ( 0 < i ) { i = i - 1 ; this . w = new W [ this , o ] ; this . w . go ( i , this . r ) ; } return i ; } } "
        + "main { W [ world , world ] w = new W [ world , world ] ; R [ world ] r = new R [ world ] ; w . go ( 2 , r ) ; w . m . put ( r ) ; }",
        "class D [ o ] { int v ; } class C [ o , p , q ] is B [ o , q ] where p in q { D [ p ] d ; D [ q ] e ; C [ this , o , q ] sub ; B [ o , q ] up ; "
        + "int go ( D [ p ] d ) { this . d = d ; this . it = this . e ; this . sub = new C [ this , o , q ] ; this . up = this ; this . sub . e = this . it ; "
        + "C [ o , p , q ] c = this . up as C [ o , p , q ] ; c . d = d ; return 1 ; } } class B [ o , p ] { D [ p ] it ; D [ this ] own ; "
        + "int mk ( ) { this . own = new D [ this ] ; this . it = new D [ p ] ; } } "
        + "main { C [ world , world , world ] c = new C [ world , world , world ] ; c . go ( new D [ world ] ) ; c . mk ( ) ; c . up = null ; }",
    };

    private final Random random;
    private int loaded;
    private int refused;
    private int leaked;

    private AnyTextTest(long seed) {
        random = new Random(seed);
    }

    private String any(String[] row) {
        return row[random.nextInt(row.length)];
    }

    private int number() {
        return NUMBERS[random.nextInt(NUMBERS.length)];
    }

    /** A program in which some TOKENS are other ones, gone, twice there, or have changed places. */
    private String changed(String program, int many) {
        List<String> tokens = new ArrayList<>(List.of(program.split(" ")));
        for (int k = 0; k < many; k++) {
            int at = random.nextInt(tokens.size());
            boolean isOwner = List.of(OWNERS).contains(tokens.get(at));
            switch (isOwner ? 4 : random.nextInt(9)) {
                case 0: tokens.remove(at); break;
                case 1: tokens.add(at, any(TOKENS)); break;
                case 2: tokens.set(at, any(TOKENS)); break;
                case 3: tokens.set(at, tokens.set(random.nextInt(tokens.size()), tokens.get(at))); break;
                case 4: tokens.set(at, any(OWNERS)); break;
                default: break;
            }
        }
        return String.join(" ", tokens);
    }

    /** A program in which the OWNERS of some KINDS are other ones, wherever that KIND stands: TYPES mostly go on to FIT. */
    private String renamed(String program) {
        String made = program;
        for (int k = random.nextInt(4); k >= 0; k--) {
            List<String> kinds = new ArrayList<>();
            Matcher matcher = Pattern.compile("(?<!class )[A-Z] \\[[^\\]]*\\]").matcher(made);
            while (matcher.find()) {
                kinds.add(matcher.group());
            }
            String kind = kinds.get(random.nextInt(kinds.size()));
            StringBuilder other = new StringBuilder(kind.substring(0, 4)).append(any(OWNERS));
            for (int i = kind.split(",").length; i > 1; i--) {
                other.append(" , ").append(any(OWNERS));
            }
            made = made.replaceAll("(?<!class )" + Pattern.quote(kind), other + " ]");
        }
        return made;
    }

    private String soup() {
        StringBuilder made = new StringBuilder(random.nextInt(3) == 0 ? "" : "main { ");
        for (int k = random.nextInt(60); k > 0; k--) {
            made.append(random.nextInt(40) == 0 ? "" + (char) random.nextInt(256) : any(TOKENS)).append(random.nextInt(4) == 0 ? "" : " ");
        }
        return made.toString();
    }

    private void questions(OwnerHeap x) {
        for (int k = 0; k < 4; k++) {
            int a = number();
            int b = number();
            x.fault(a);
            x.type(a, b);
            x.isIn(random.nextInt(4), a, b);
            x.state(a);
            x.said(a);
            x.call(a, b);
            x.variable(a, b);
            x.object(a, b);
            x.owner(a, b);
            x.field(a, b);
            x.isInside(a, b);
            x.way(a, b);
            x.above(a);
            x.leak(a);
            x.past(a, b);
        }
    }

    private void runs(OwnerHeap x, String text, boolean trust) {
        CHECK.due("start of " + text, x.start(8 + random.nextInt(300), 1 + random.nextInt(40)), true);
        int state = 1;
        for (int k = 0; k < 12 && state == 1; k++) {
            state = x.run(1 + random.nextInt(k == 11 ? 2000 : 60));
            CHECK.due("state of " + text, state, x.state(0));
            int leaks = x.leaks();
            leaked += trust && leaks > 0 ? 1 : 0;
            CHECK.due("leaks of what was judged: " + text, trust ? 0 : leaks, 0);
            for (int i = 0; i < leaks && i < 4; i++) {
                CHECK.due("a LEAK's WAY begins at a ROOT: " + text, x.object(x.past(x.leak(i), 0), 1), 0);
            }
        }
        questions(x);
    }

    private void one(String text) {
        OwnerHeap x = new OwnerHeap();
        boolean trust = random.nextInt(3) == 0;
        CHECK.due("a first PROGRAM", Check.load(x, "class A[o,p] { int v; } main { say 1; }", false), 0);
        String fits = text.length() > 2980 ? text.substring(0, 2980) : text;
        int length = Check.feed(x, fits);
        int fault = x.load(length, trust);
        int place = x.fault(1);
        CHECK.due("a FAULT as they are, of " + text, fault >= 0 && fault <= 11 && !(trust && fault == 8), true);
        CHECK.due("fault(0) of " + text, x.fault(0), fault);
        CHECK.due("a place in " + text, fault == 0 ? place == -1 : place >= 0 && place <= length, true);
        if (fault > 0) {
            refused++;
            CHECK.due("the first PROGRAM stays, behind " + text, x.type(0, 0), 2);
            questions(x);
            if (place < length) {
                CHECK.due("a TOKEN is at the place in " + text, fits.charAt(place) != ' ' && fits.charAt(place) != '\n', true);
            }
            return;
        }
        loaded++;
        runs(x, text, trust);
    }

    public static void main(String[] args) {
        AnyTextTest test = new AnyTextTest(11);
        int many = args.length > 1 ? Integer.parseInt(args[1]) : 6000;
        for (int k = 0; k < many; k++) {
            String program = test.any(PROGRAMS);
            switch (test.random.nextInt(8)) {
                case 0: test.one(test.soup()); break;
                case 1: test.one(test.changed(program, test.random.nextInt(5))); break;
                case 2: test.one(test.changed(test.renamed(program), test.random.nextInt(3))); break;
                default: test.one(test.renamed(program)); break;
            }
        }
        System.out.println(test.loaded + " let through, " + test.refused + " refused, " + test.leaked + " leaked");
        CHECK.due("some were let through", test.loaded > many / 50, true);
        CHECK.due("some were refused", test.refused > many / 50, true);
        CHECK.due("some that were trusted leaked", test.leaked > 0, true);
        CHECK.end();
    }
}
