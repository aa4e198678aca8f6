import java.nio.charset.StandardCharsets;

/** What the tests share: texts put on the tape, and answers held against those that are due. */
final class Check {
    private int wrong;

    void due(String what, long got, long want) {
        if (got != want) {
            wrong++;
            System.out.println(what + " answered " + got + ", due is " + want);
        }
    }

    void due(String what, boolean got, boolean want) {
        due(what, got ? 1 : 0, want ? 1 : 0);
    }

    /** Prints how it went, and ends the test with 1 if an answer was wrong. */
    void end() {
        System.out.println(wrong == 0 ? "all answers are as due" : wrong + " answers are not as due");
        if (wrong != 0) {
            System.exit(1);
        }
    }

    /** Puts a text on the tape, with blanks up to twenty bytes; answers its own length. */
    static int feed(OwnerHeap x, String text) {
        byte[] bytes = text.getBytes(StandardCharsets.ISO_8859_1);
        for (int i = 0; i < bytes.length; i += 20) {
            int[] v = new int[5];
            for (int j = 0; j < 20; j++) {
                int sign = i + j < bytes.length ? bytes[i + j] & 255 : ' ';
                v[j / 4] = v[j / 4] << 8 | sign;
            }
            x.feed(v[0], v[1], v[2], v[3], v[4]);
        }
        return bytes.length;
    }

    static int load(OwnerHeap x, String text, boolean trust) {
        return x.load(feed(x, text), trust);
    }

    /** A TEXT without a FAULT. */
    void fine(String text) {
        judged(0, text, false);
    }

    /** A TEXT with that FAULT; the sign @ (which is taken out) stands ahead of its place. */
    void fault(int number, String marked) {
        judged(number, marked, false);
    }

    void judged(int number, String marked, boolean trust) {
        judgedAt(number, marked.indexOf('@'), marked.replace("@", ""), trust);
    }

    void judgedAt(int number, int place, String text, boolean trust) {
        OwnerHeap x = new OwnerHeap();
        due("load of " + text, load(x, text, trust), number);
        due("fault(0) of " + text, x.fault(0), number);
        due("fault(1) of " + text, x.fault(1), place);
        due("start of " + text, x.start(100, 10), number == 0);
    }

    OwnerHeap loaded(String text, boolean trust) {
        OwnerHeap x = new OwnerHeap();
        due("load of " + text, load(x, text, trust), 0);
        return x;
    }

    OwnerHeap started(String text, int words, int calls) {
        OwnerHeap x = loaded(text, false);
        due("start of " + text, x.start(words, calls), true);
        return x;
    }

    /** The answers of state() from 0 on. */
    void states(OwnerHeap x, String what, int... due) {
        for (int i = 0; i < due.length; i++) {
            due(what + ", state(" + i + ")", x.state(i), due[i]);
        }
    }
}
