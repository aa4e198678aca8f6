import java.util.ArrayList;
import java.util.List;
import java.util.Random;

/** Promises 17 to 21: WAYS, what is ABOVE, LEAKS, and the WAYS past an owner. */
public final class WalkTest {
    private static final Check CHECK = new Check();
    private static final String CLASSES =
        "class R[o] { R[o] s; int v; R[o] t; } class K[o,p] { R[p] it; K[o,p] n; K[o,p] m; } "
        + "class W[o] { R[this] a; R[this] b; R[this] c; K[world,this] k; K[world,this] h; K[this,this] l; "
        + "K[this,o] j; W[this] sub; W[o] sib; R[o] up; ";

    private static OwnerHeap run(String text, boolean trust) {
        OwnerHeap x = new OwnerHeap();
        CHECK.due("load", Check.load(x, text, trust), 0);
        CHECK.due("start", x.start(4000, 40), true);
        CHECK.due("run", x.run(2000), 2);
        return x;
    }

    private static void nothing(OwnerHeap x, int o) {
        CHECK.due("way to " + o, x.way(1, o), -1);
        CHECK.due("way from " + o, x.way(o, 1), -1);
        CHECK.due("way of " + o, x.way(o, o), -1);
        CHECK.due("above(" + o + ")", x.above(o), -1);
        CHECK.due("past(" + o + ", 0)", x.past(o, 0), -1);
    }

    /** 1 is a W, 2 and 3 are its R, 4 is a K of world's that holds 2: a LEAK. */
    private static void aLeak() {
        OwnerHeap x = run(CLASSES + "int go() { this.a = new R[this]; this.b = new R[this]; this.a.s = this.b; "
            + "this.k = new K[world,this]; this.k.it = this.a; } } main { W[world] w = new W[world]; w.go(); }", true);
        CHECK.due("leaks", x.leaks(), 2);
        CHECK.due("leak(0)", x.leak(0), 2);
        CHECK.due("leak(1)", x.leak(1), 3);
        CHECK.due("leak(2)", x.leak(2), -1);
        CHECK.due("leak(-1)", x.leak(-1), -1);
        int[][] past = {{}, {-1}, {-1, 4, 2, -1}, {-1, 4, 2, 3, -1}, {-1}};
        for (int o = 1; o <= 4; o++) {
            for (int i = 0; i < past[o].length; i++) {
                CHECK.due("past(" + o + ", " + (i - 1) + ")", x.past(o, i - 1), past[o][i]);
            }
        }
        CHECK.due("past far away", x.past(2, Integer.MAX_VALUE), -1);
        int[] above = {0, 0, 0, 0, 0};
        int[] ways = {0, 0, 1, 1, 1};
        for (int o = 1; o <= 4; o++) {
            CHECK.due("above(" + o + ")", x.above(o), above[o]);
            CHECK.due("way(1, " + o + ")", x.way(1, o), ways[o]);
            CHECK.due("way(" + o + ", 1)", x.way(o, 1), o == 1 ? 0 : -1);
        }
        CHECK.due("way(4, 3)", x.way(4, 3), 2);
        nothing(x, 5);
        nothing(x, 0);
        nothing(x, -1);
        nothing(x, Integer.MIN_VALUE);
        nothing(x, Integer.MAX_VALUE);
    }

    /** The last OBJECT is a LEAK, too. */
    private static void theLastLeaks() {
        OwnerHeap x = run(CLASSES + "int go() { this.k = new K[world,this]; this.k.it = new R[this]; } } "
            + "main { W[world] w = new W[world]; w.go(); }", true);
        CHECK.due("leaks", x.leaks(), 1);
        CHECK.due("leak(0)", x.leak(0), 3);
        CHECK.due("past(3, 0)", x.past(3, 0), 2);
        CHECK.due("past(3, 1)", x.past(3, 1), 3);
        CHECK.due("above(3)", x.above(3), 2);
    }

    /**
     * 1 leads to a (2) and b (3), a to y (4) and v (5), both to w (6), and b on a longer WAY to v: that
     * a is not above v is seen only behind what was seen of w.
     */
    private static void seenLate() {
        int[] above = {0, 0, 1, 1, 2, 1, 1, 3, 7, 8};
        // the second time one is behind all of them, of which nothing is seen
        for (String last : new String[] {"", "this.b.s.s.s = new R[this]; "}) {
            OwnerHeap x = run(CLASSES + "int go() { this.a = new R[this]; this.b = new R[this]; this.a.s = new R[this]; "
                + "this.a.t = new R[this]; this.a.s.s = new R[this]; this.a.t.t = this.a.s.s; this.b.s = new R[this]; "
                + "this.b.s.s = new R[this]; this.b.s.s.t = this.a.t; " + last + "} } main { W[world] w = new W[world]; w.go(); }", true);
            for (int o = 1; o <= x.state(6); o++) {
                CHECK.due("above(" + o + ")", x.above(o), above[o]);
            }
            CHECK.due("leaks", x.leaks(), 0);
            CHECK.due("way(3, 6)", x.way(3, 6), 4);
        }
    }

    /** One that nothing leads to has no WAY; an int in a FIELD is no HOP. */
    private static void noWay() {
        OwnerHeap x = run("class A[o] { int v; A[this] h; A[o] n; int f() { this.h = new A[this]; this.h.n = new A[this]; "
            + "this.v = 2; this.h = null; } } main { A[world] a = new A[world]; a.f(); a.n = new A[world]; a.v = 3; }", false);
        CHECK.due("above(1)", x.above(1), 0);
        CHECK.due("above(2)", x.above(2), -1);
        CHECK.due("above(3)", x.above(3), -1);
        CHECK.due("above(4), a ROOT", x.above(4), 0);
        CHECK.due("way(2, 3)", x.way(2, 3), 1);
        CHECK.due("way(1, 3)", x.way(1, 3), -1);
        CHECK.due("way(1, 4)", x.way(1, 4), 1);
        CHECK.due("leaks", x.leaks(), 0);
    }

    /** The walker sees the heap as it is between two STEPS. */
    private static void atAnyTime() {
        OwnerHeap x = new OwnerHeap();
        CHECK.due("leaks without a PROGRAM", x.leaks(), 0);
        CHECK.due("leak without a PROGRAM", x.leak(0), -1);
        nothing(x, 1);
        Check.load(x, CLASSES + "int go() { this.a = new R[this]; this.k = new K[world,this]; this.k.it = this.a; this.k.it = null; } } "
            + "main { W[world] w = new W[world]; w.go(); }", true);
        CHECK.due("leaks without a RUN", x.leaks(), 0);
        nothing(x, 1);
        x.start(100, 5);
        CHECK.due("leaks at the start", x.leaks(), 0);
        nothing(x, 1);
        int[] leaks = {0, 0, 0, 0, 0, 0, 0, 0, 0, 0, 1, 1, 0};
        for (int k = 0; k < leaks.length; k++) {
            x.run(1);
            CHECK.due("leaks behind STEP " + (k + 1), x.leaks(), leaks[k]);
        }
        CHECK.due("to the end", x.state(0), 2);
        CHECK.due("above(2)", x.above(2), 1);
        x.start(100, 5);
        CHECK.due("leaks of a new RUN", x.leaks(), 0);
        nothing(x, 2);
    }

    /** A long chain, and a ladder in which the NEAREST is far away. */
    private static void longOnes() {
        OwnerHeap x = run("class R[o] { R[o] s; R[o] t; } class L[o] { R[this] h; int go(int n) { int i = 0; while (i < n) { "
            + "R[this] r = new R[this]; r.s = this.h; if (this.h != null) { r.t = this.h.s; } this.h = r; i = i + 1; } } } "
            + "main { L[world] l = new L[world]; l.go(100); }", false);
        CHECK.due("leaks", x.leaks(), 0);
        CHECK.due("above the first", x.above(101), 1);
        CHECK.due("above the second", x.above(100), 101);
        for (int o = 99; o >= 2; o--) {
            CHECK.due("above(" + o + ")", x.above(o), 101);
            CHECK.due("way(1, " + o + ")", x.way(1, o), 1 + (102 - o) / 2);
        }
    }

    private static String links(Random random, String[][] sets, int many) {
        StringBuilder made = new StringBuilder();
        for (int k = 0; k < many; k++) {
            String[] set = sets[random.nextInt(sets.length)];
            String value = random.nextInt(8) == 0 ? "null" : set[1 + random.nextInt(set.length - 1)];
            made.append(set[0]).append(" = ").append(value).append("; ");
        }
        return made.toString();
    }

    private static String randomText(Random random) {
        String[] r = {"this.a", "this.b", "this.c", "new R[this]", "this.k.it", "this.a.s"};
        String[] k = {"this.k", "this.h", "new K[world,this]"};
        String[][] inside = {
            with("this.a.s", r), with("this.a.t", r), with("this.b.s", r), with("this.b.t", r), with("this.c.s", r),
            with("this.k.it", r), with("this.h.it", r), with("this.l.it", r), with("this.sub.up", r),
            with("this.k.n", k), with("this.h.n", k), with("this.h.m", k),
            {"this.l.n", "this.l", "new K[this,this]"}, {"this.j.it", "this.up", "new R[o]"},
            {"this.up", "new R[o]", "this.j.it"}, {"this.sib", "this", "this.sib"}, {"this.sub.sib", "this.sub", "new W[this]"},
        };
        String[] drops = {"this.a = null; ", "this.k = null; ", "this.h = null; ", "this.l = null; ", "this.b = this.a; ", ""};
        String[][] outside = {{"x.sib", "x", "y"}, {"y.sib", "x", "y"}, {"x.up", "r", "q"}, {"r.s", "r", "q"}, {"q.t", "r", "q"}};
        return CLASSES + "int go(int n) { this.a = new R[this]; this.b = new R[this]; this.c = new R[this]; "
            + "this.k = new K[world,this]; this.h = new K[world,this]; this.l = new K[this,this]; this.j = new K[this,o]; "
            + "this.sub = new W[this]; if (0 < n) { this.sub.go(n - 1); } " + links(random, inside, random.nextInt(14))
            + drops[random.nextInt(6)] + drops[random.nextInt(6)] + "} } "
            + "main { W[world] x = new W[world]; x.go(" + random.nextInt(3) + "); W[world] y = new W[world]; y.go("
            + random.nextInt(2) + "); R[world] r = new R[world]; R[world] q = new R[world]; "
            + links(random, outside, random.nextInt(8)) + "}";
    }

    private static String[] with(String first, String[] others) {
        String[] all = new String[others.length + 1];
        all[0] = first;
        System.arraycopy(others, 0, all, 1, others.length);
        return all;
    }

    /** What the document says, done the plain way over the answers of the other promises. */
    private static final class Plain {
        private final int count;
        private final int[] owners;
        /** The OBJECTS in the FIELDS of each, in order. */
        private final List<List<Integer>> hops = new ArrayList<>();

        /** Each OBJECT is asked for in a RUN of its own: no object is used for more than 512 calls. */
        Plain(String text) {
            count = run(text, true).state(6);
            owners = new int[count + 1];
            hops.add(List.of());
            for (int o = 1; o <= count; o++) {
                OwnerHeap x = run(text, true);
                owners[o] = x.object(o, 1);
                List<Integer> held = new ArrayList<>();
                for (int f = 0; f < x.object(o, 3); f++) {
                    boolean number = x.object(o, 0) == 0 && f == 1;
                    if (!number && x.field(o, f) != 0) {
                        held.add(x.field(o, f));
                    }
                }
                hops.add(held);
            }
        }

        List<Integer> roots() {
            List<Integer> found = new ArrayList<>();
            for (int o = 1; o <= count; o++) {
                if (owners[o] == 0) {
                    found.add(o);
                }
            }
            return found;
        }

        /** From where each was come to, 0 for the first ones, -1 for those not come to. */
        int[] spread(List<Integer> first, int shut) {
            int[] from = new int[count + 1];
            java.util.Arrays.fill(from, -1);
            List<Integer> queue = new ArrayList<>();
            for (int o : first) {
                if (o != shut) {
                    from[o] = 0;
                    queue.add(o);
                }
            }
            for (int i = 0; i < queue.size(); i++) {
                int o = queue.get(i);
                for (int to : hops.get(o)) {
                    if (to != shut && from[to] == -1) {
                        from[to] = o;
                        queue.add(to);
                    }
                }
            }
            return from;
        }

        List<Integer> path(int[] from, int o) {
            List<Integer> path = new ArrayList<>();
            for (int a = o; a != 0; a = from[a]) {
                path.add(0, a);
            }
            return path;
        }

        int nearest(int o) {
            if (spread(roots(), 0)[o] == -1) {
                return -1;
            }
            List<Integer> above = new ArrayList<>();
            for (int b = 1; b <= count; b++) {
                if (b != o && spread(roots(), b)[o] == -1) {
                    above.add(b);
                }
            }
            int best = 0;
            for (int b : above) {
                if (best == 0 || spread(roots(), best)[b] == -1) {
                    best = b;
                }
            }
            return best;
        }
    }

    private static int randomOne(Random random) {
        String text = randomText(random);
        Plain plain = new Plain(text);
        int leaks = 0;
        for (int o = 1; o <= plain.count; o++) {
            OwnerHeap x = run(text, true);
            CHECK.due("above(" + o + ")", x.above(o), plain.nearest(o));
            int[] from = plain.spread(List.of(o), 0);
            for (int b = 1; b <= plain.count; b++) {
                CHECK.due("way(" + o + ", " + b + ")", x.way(o, b), from[b] == -1 ? -1 : plain.path(from, b).size() - 1);
            }
            int owner = plain.owners[o];
            int[] past = plain.spread(plain.roots(), owner);
            boolean leak = owner != 0 && past[o] != -1;
            List<Integer> path = leak ? plain.path(past, o) : List.of();
            for (int i = 0; i <= path.size(); i++) {
                CHECK.due("past(" + o + ", " + i + ")", x.past(o, i), i < path.size() ? path.get(i) : -1);
            }
            if (leak) {
                CHECK.due("leak(" + leaks + ")", x.leak(leaks), o);
                leaks++;
            }
        }
        OwnerHeap last = run(text, true);
        CHECK.due("leaks", last.leaks(), leaks);
        CHECK.due("leak over the end", last.leak(leaks), -1);
        return leaks;
    }

    public static void main(String[] args) {
        aLeak();
        theLastLeaks();
        seenLate();
        noWay();
        atAnyTime();
        longOnes();
        Random random = new Random(7);
        int leaks = 0;
        for (int k = 0; k < 60; k++) {
            leaks += randomOne(random);
        }
        CHECK.due("there were LEAKS among them", leaks > 50, true);
        CHECK.end();
    }
}
