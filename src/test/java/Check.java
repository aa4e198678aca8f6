import java.nio.charset.StandardCharsets;

/** What the tests share: texts put on the tape, and answers held against those that are due. */
final class Check {
    private int wrong;

    void due(String what, long got, long want) {
        if (got != want) {
            wrong++;
            System.out.println(what + " answered " + got + ", due is " + want);
        }
    }

    void due(String what, boolean got, boolean want) {
        due(what, got ? 1 : 0, want ? 1 : 0);
    }

    /** Prints how it went, and ends the test with 1 if an answer was wrong. */
    void end() {
        System.out.println(wrong == 0 ? "all answers are as due" : wrong + " answers are not as due");
        if (wrong != 0) {
            System.exit(1);
        }
    }

    /** Puts a text on the tape, with blanks up to twenty bytes; answers its own length. */
    static int feed(OwnerHeap x, String text) {
        byte[] bytes = text.getBytes(StandardCharsets.ISO_8859_1);
        for (int i = 0; i < bytes.length; i += 20) {
            int[] v = new int[5];
            for (int j = 0; j < 20; j++) {
                int sign = i + j < bytes.length ? bytes[i + j] & 255 : ' ';
                v[j / 4] = v[j / 4] << 8 | sign;
            }
            x.feed(v[0], v[1], v[2], v[3], v[4]);
        }
        return bytes.length;
    }

    static int load(OwnerHeap x, String text, boolean trust) {
        return x.load(feed(x, text), trust);
    }
}
