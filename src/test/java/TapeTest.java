/** Promises 2 to 4: the tape, what load() refuses, and what stays when a TEXT has a FAULT. */
public final class TapeTest {
    private static final Check CHECK = new Check();

    private static void fillsUp() {
        OwnerHeap x = new OwnerHeap();
        for (int i = 1; i <= 150; i++) {
            CHECK.due("feed " + i, x.feed(0, 0, 0, 0, 0), 20 * i);
        }
        CHECK.due("feed over the end", x.feed(0, 0, 0, 0, 0), -1);
        CHECK.due("feed over the end again", x.feed(1, 2, 3, 4, 5), -1);
        CHECK.due("load of more than there is", x.load(3001, false), -1);
        CHECK.due("fault ahead of any", x.fault(0), -1);
        CHECK.due("load of all", x.load(3000, false), 1);
        CHECK.due("its place", x.fault(1), 0);
        CHECK.due("feed on the empty tape", x.feed(0, 0, 0, 0, 0), 20);
    }

    private static void highestByteFirst() {
        OwnerHeap x = new OwnerHeap();
        x.feed(0x6d61696e, 0x207b2073, 0x61792031, 0x3b207d20, 0x20202024);
        CHECK.due("without the last byte", x.load(19, false), 0);
        x.feed(0x6d61696e, 0x207b2073, 0x61792031, 0x3b207d20, 0x20202024);
        CHECK.due("with it", x.load(20, false), 1);
        CHECK.due("where it is", x.fault(1), 19);
        x.feed(0x6d61696e, 0x207b207d, 0x23ffffff, 0x80818283, -1);
        CHECK.due("bytes over 127 in a note", x.load(20, false), 0);
    }

    /** "Twenty bytes come behind those on the tape, the highest of each int first": each in its place. */
    private static void eachByteInItsPlace() {
        for (int bad : new int[] {'$', 0, 127, 128, 255}) {
            for (int at = 0; at < 40; at++) {
                OwnerHeap x = new OwnerHeap();
                for (int first = 0; first < 40; first += 20) {
                    int[] v = new int[5];
                    for (int j = 0; j < 20; j++) {
                        v[j / 4] |= (first + j == at ? bad : ' ') << (24 - 8 * (j % 4));
                    }
                    CHECK.due("feed", x.feed(v[0], v[1], v[2], v[3], v[4]), first + 20);
                }
                CHECK.due("load with " + bad + " at " + at, x.load(40, false), 1);
                CHECK.due("place of " + bad + " at " + at, x.fault(1), at);
            }
        }
    }

    /** "NONE, and nothing happens, if n is below 0, or the tape has not so many": one less and one more. */
    private static void asManyAsThereAre() {
        for (int feeds = 0; feeds <= 150; feeds += 25) {
            OwnerHeap x = new OwnerHeap();
            Check.feed(x, " ".repeat(20 * feeds));
            CHECK.due("one more", x.load(20 * feeds + 1, false), -1);
            CHECK.due("below 0", x.load(-1, false), -1);
            CHECK.due("no load yet", x.fault(0), -1);
            CHECK.due("all", x.load(20 * feeds, false), 2);
            CHECK.due("its end", x.fault(1), 20 * feeds);
            CHECK.due("the tape is empty", x.load(1, false), -1);
            CHECK.due("nothing of it is left", x.load(0, false), 2);
            CHECK.due("at its end", x.fault(1), 0);
            Check.feed(x, " ".repeat(20 * feeds));
            int less = Math.max(20 * feeds - 1, 0);
            CHECK.due("one less", x.load(less, false), 2);
            CHECK.due("its end", x.fault(1), less);
            CHECK.due("feed on the empty tape", x.feed(0, 0, 0, 0, 0), 20);
        }
    }

    /** A TEXT on an object of its own, as a full tape takes 150 calls. */
    private static OwnerHeap full(String what, String text, int fault, int place) {
        OwnerHeap x = new OwnerHeap();
        CHECK.due(what + ": length", text.length(), 3000);
        CHECK.due(what, Check.load(x, text, false), fault);
        CHECK.due(what + ": place", x.fault(1), place);
        CHECK.due(what + ": start", x.start(8, 1), fault == 0);
        return x;
    }

    /** "TEXTS, of at most 3,000 bytes": just so many, to the last byte. */
    private static void fullTexts() {
        String sum = "main{say 1" + "+1".repeat(1494) + ";}";
        OwnerHeap x = full("a sum", sum, 0, -1);
        CHECK.due("run", x.run(1495), 2);
        CHECK.due("said", x.said(0), 1495);
        Check.feed(x, sum);
        CHECK.due("without its last byte", x.load(2999, false), 2);
        CHECK.due("at the end", x.fault(1), 2999);
        full("with another last byte", sum.substring(0, 2999) + "$", 1, 2999);
        full("with one that can't stand there", sum.substring(0, 2999) + ";", 2, 2999);
        full("not ended", " " + sum.substring(0, 2999), 2, 3000);
        full("a note to its end", "main{say 2;}#" + "$".repeat(2987), 0, -1);
        full("blanks to its end", "main{say 2;}" + "\n".repeat(2988), 0, -1);
        x = full("blanks ahead", " ".repeat(2988) + "main{say 3;}", 0, -1);
        CHECK.due("run", x.run(1), 2);
        CHECK.due("said", x.said(0), 3);
        full("a STATEMENT far behind", " ".repeat(2985) + "main{say null;}", 7, 2990);
        full("nothing but signs", ";".repeat(3000), 2, 0);
        full("nothing but names", "a ".repeat(1500), 2, 0);
        full("nothing but a note", "#".repeat(3000), 2, 3000);
        full("nothing but blanks", " ".repeat(3000), 2, 3000);
        full("nothing but {", "main" + "{".repeat(2996), 3, 16);
    }

    /** "NONE for others, and ahead of any": of fault(). */
    private static void faultsAsked() {
        OwnerHeap x = new OwnerHeap();
        int[] others = {Integer.MIN_VALUE, -2, -1, 2, 3, Integer.MAX_VALUE};
        for (int what : others) {
            CHECK.due("ahead of any, fault(" + what + ")", x.fault(what), -1);
        }
        x.load(1, false);
        CHECK.due("behind NONE, fault(0)", x.fault(0), -1);
        CHECK.due("behind NONE, fault(1)", x.fault(1), -1);
        Check.load(x, "main { } main", false);
        CHECK.due("a FAULT", x.fault(0), 2);
        CHECK.due("its place", x.fault(1), 9);
        for (int what : others) {
            CHECK.due("behind a FAULT, fault(" + what + ")", x.fault(what), -1);
        }
        x.load(21, false);
        CHECK.due("behind NONE, fault(0)", x.fault(0), 2);
        CHECK.due("behind NONE, fault(1)", x.fault(1), 9);
        Check.load(x, "main { }", false);
        CHECK.due("without one, fault(0)", x.fault(0), 0);
        CHECK.due("without one, fault(1)", x.fault(1), -1);
        for (int what : others) {
            CHECK.due("without one, fault(" + what + ")", x.fault(what), -1);
        }
    }

    private static void loadsPart() {
        OwnerHeap x = new OwnerHeap();
        Check.feed(x, "main { say 12345; }");
        CHECK.due("below 0", x.load(-1, false), -1);
        CHECK.due("too many", x.load(21, false), -1);
        CHECK.due("the least int", x.load(Integer.MIN_VALUE, false), -1);
        CHECK.due("nothing happened", x.fault(0), -1);
        CHECK.due("the tape is as it was", x.feed(0, 0, 0, 0, 0), 40);
        CHECK.due("cut in a TOKEN", x.load(14, false), 2);
        CHECK.due("at the length", x.fault(1), 14);
        CHECK.due("the tape is empty", x.load(1, false), -1);
        CHECK.due("the FAULT stays", x.fault(0), 2);
        CHECK.due("its place stays", x.fault(1), 14);
        CHECK.due("an empty TEXT", x.load(0, false), 2);
        CHECK.due("its place", x.fault(1), 0);
        CHECK.due("fault(-1)", x.fault(-1), -1);
        CHECK.due("fault(2)", x.fault(2), -1);
    }

    private static void cut(String text, int n, int fault, int place) {
        OwnerHeap x = new OwnerHeap();
        Check.feed(x, text);
        CHECK.due(n + " bytes of " + text, x.load(n, false), fault);
        CHECK.due("place in " + n + " bytes of " + text, x.fault(1), place);
    }

    /** What is on the tape behind the first n bytes is no part of the TEXT. */
    private static void cutsTokens() {
        cut("main { say 1234567890; }", 20, 2, 20);
        cut("main { say 1234567890; }", 21, 1, 11);
        cut("main { say abcdefghijk; }", 21, 2, 21);
        cut("main { say abcdefghijk; }", 22, 1, 11);
        cut("main { say 1 != 2; }", 14, 1, 13);
        cut("main { say 1 != 2; }", 15, 2, 15);
        cut("main { } # note", 10, 0, -1);
        cut("main { } x", 9, 0, -1);
    }

    private static OwnerHeap started(String text, int calls) {
        return CHECK.started(text, 8, calls);
    }

    private static void longTexts() {
        String text = "main { say 7; }";
        CHECK.fine(text + " ".repeat(3000 - text.length()));
        OwnerHeap x = started("main{say 1" + "+1".repeat(1490) + ";}", 1);
        CHECK.due("a long sum", x.run(2000), 2);
        CHECK.due("is worked", x.said(0), 1491);
        x = started("class A[o]{int m(){}}main{A[world]a=new A[world];" + "a.m();".repeat(490) + "}", 2);
        CHECK.due("many calls", x.run(2000), 2);
        CHECK.due("in STEPS", x.state(4), 2 + 2 * 490);
        x = started("main{int a=1;" + "a=1;".repeat(740) + "}", 1);
        CHECK.due("many that set", x.run(741), 2);
        x = started("main{int a=1" + "- - - - - - - - - - - -1".repeat(122) + ";return a;}", 1);
        CHECK.due("many -", x.run(2000), 2);
        CHECK.due("what is left", x.state(1), 1 + 122);
    }

    /** 16 CLASSES of 24 MEMBERS each, one above the other, fit one TEXT: 368 FIELDS in the last. */
    private static void manyMembers() {
        StringBuilder text = new StringBuilder();
        for (int c = 0; c < 16; c++) {
            text.append("class C").append(c).append("[o]").append(c == 0 ? "" : " is C" + (c - 1) + "[o]").append("{");
            for (int m = 0; m < 23; m++) {
                text.append("int ").append((char) ('a' + m)).append(c == 0 ? "" : "" + (char) ('A' + c)).append(";");
            }
            text.append("}");
        }
        text.append("main{C15[world]a=new C15[world];a.wP=5;a.a=6;}");
        OwnerHeap x = new OwnerHeap();
        CHECK.due("length", text.length() <= 3000, true);
        CHECK.due("many MEMBERS", Check.load(x, text.toString(), false), 0);
        CHECK.due("FIELDS", x.type(15, 2), 368);
        CHECK.due("no CLASS 16", x.type(16, 2), -1);
        CHECK.due("no OWNERS in it", x.isIn(16, -1, -1), false);
        CHECK.due("those of CLASS 15", x.isIn(15, -2, 0), true);
        CHECK.due("start", x.start(371, 1), true);
        CHECK.due("run", x.run(10), 2);
        CHECK.due("the last FIELD", x.field(1, 367), 5);
        CHECK.due("the first FIELD", x.field(1, 0), 6);
        CHECK.due("none behind", x.field(1, 368), 0);
        CHECK.due("object(1, 3)", x.object(1, 3), 368);
        CHECK.due("start with less", x.start(370, 1), true);
        CHECK.due("run", x.run(10), 3);
        CHECK.due("FULL", x.state(2), 4);
    }

    private static void faultLeavesAll() {
        OwnerHeap x = new OwnerHeap();
        Check.load(x, "class A[o] { int v; } main { A[world] a = new A[world]; a.v = 3; say a.v; }", false);
        x.start(100, 4);
        x.run(3);
        CHECK.due("one with a FAULT", Check.load(x, "class B[o,p] { B[o] v; } main { }", false), 6);
        CHECK.due("PROGRAM stays", x.type(0, 0), 1);
        CHECK.due("its FIELDS", x.type(0, 2), 1);
        CHECK.due("RUN stays", x.state(4), 3);
        CHECK.due("OBJECTS stay", x.object(1, 0), 0);
        CHECK.due("RUN goes on", x.run(100), 2);
        CHECK.due("said", x.said(0), 3);
        CHECK.due("a new PROGRAM", Check.load(x, "class B[o,p] { } main { }", false), 0);
        CHECK.due("is there", x.type(0, 0), 2);
        for (int what = 0; what < 10; what++) {
            CHECK.due("no RUN, state(" + what + ")", x.state(what), what == 3 ? -1 : 0);
        }
        CHECK.due("no number", x.said(0), 0);
        CHECK.due("no OBJECT", x.object(1, 0), -1);
        CHECK.due("no call", x.call(0, 2), -1);
        CHECK.due("no run", x.run(1), -1);
        CHECK.due("no FAULT", x.fault(0), 0);
        CHECK.due("no place", x.fault(1), -1);
    }

    public static void main(String[] args) {
        fillsUp();
        highestByteFirst();
        eachByteInItsPlace();
        asManyAsThereAre();
        fullTexts();
        faultsAsked();
        loadsPart();
        cutsTokens();
        longTexts();
        manyMembers();
        faultLeavesAll();
        CHECK.end();
    }
}
