import java.nio.charset.StandardCharsets;
import java.util.Arrays;
import java.util.Random;

/**
 * The class held against a second, plain telling of the document (Model) on TEXTS made at random: each
 * call's answer is due to be the same. The seed is fixed; a second argument tells how many TEXTS.
 */
public final class ModelTest {
    private static final Check CHECK = new Check();
    private static final int MOST_CALLS = 512;
    private static final int LONGEST = 2980;
    private static final int[] FAULTS = new int[12];
    private static final int[] TROUBLES = new int[6];
    private static int ended;
    private static int leaked;

    private final Random random;
    private final OwnerHeap x = new OwnerHeap();
    private final Model y = new Model();
    private int calls;
    private String told = "";
    private boolean differs;

    private ModelTest(Random random) {
        this.random = random;
    }

    private boolean hasLeft(int many) {
        return calls + many <= MOST_CALLS && !differs;
    }

    private int same(String call, int got, int due) {
        calls++;
        CHECK.due(call + " of " + told, got, due);
        differs |= got != due;
        return due;
    }

    private void same(String call, boolean got, boolean due) {
        same(call, got ? 1 : 0, due ? 1 : 0);
    }

    /** From just below what can be to just above it. */
    private int about(int from, int to) {
        return from - 1 + random.nextInt(Math.max(to - from, 0) + 3);
    }

    private void feed(String text) {
        byte[] bytes = text.getBytes(StandardCharsets.ISO_8859_1);
        for (int i = 0; i < bytes.length; i += 20) {
            int[] v = new int[5];
            for (int j = 0; j < 20; j++) {
                v[j / 4] = v[j / 4] << 8 | (i + j < bytes.length ? bytes[i + j] & 255 : '}');
            }
            same("feed", x.feed(v[0], v[1], v[2], v[3], v[4]), y.feed(v));
        }
    }

    private void one(String text, boolean isWild) {
        told = text;
        feed(text);
        boolean trust = random.nextInt(8) < (isWild ? 7 : 2);
        same("load(" + (text.length() + 20) + ")", x.load(text.length() + 20, trust), y.load(text.length() + 20, trust));
        int fault = same("load with trust " + trust, x.load(text.length(), trust), y.load(text.length(), trust));
        FAULTS[fault]++;
        same("fault(0)", x.fault(0), y.fault(0));
        same("fault(1)", x.fault(1), y.fault(1));
        for (int k = 0; k < 12 && hasLeft(1); k++) {
            ofProgram();
        }
        if (fault == 0 && hasLeft(60)) {
            runs();
        }
        for (int k = 0; k < 20 && hasLeft(2); k++) {
            question();
        }
    }

    private void runs() {
        int words = random.nextInt(3) == 0 ? 8 + random.nextInt(60) : 8 + random.nextInt(600);
        int most = 1 + random.nextInt(random.nextInt(2) == 0 ? 4 : 40);
        same("start(" + words + ", " + most + ")", x.start(words, most), y.start(words, most));
        int state = 1;
        for (int k = 0; k < 9 && state == 1 && hasLeft(60); k++) {
            int n = k == 8 ? 2000 : 1 + random.nextInt(random.nextInt(2) == 0 ? 4 : 50);
            state = same("run(" + n + ")", x.run(n), y.run(n));
            for (int what = 0; what < 10; what++) {
                same("state(" + what + ")", x.state(what), y.state(what));
            }
            leaked += same("leaks()", x.leaks(), y.leaks()) > 0 ? 1 : 0;
            for (int i = 0; i < 20 && hasLeft(2); i++) {
                question();
            }
        }
        ended += state == 2 ? 1 : 0;
        TROUBLES[y.state(2)]++;
    }

    private void ofProgram() {
        int c = about(0, 4);
        if (random.nextBoolean()) {
            int what = about(0, 5);
            same("type(" + c + ", " + what + ")", x.type(c, what), y.type(c, what));
        } else {
            int i = about(-2, 3);
            int j = about(-2, 3);
            same("isIn(" + c + ", " + i + ", " + j + ")", x.isIn(c, i, j), y.isIn(c, i, j));
        }
    }

    private void question() {
        int o = about(1, y.state(6));
        int other = about(0, y.state(6));
        int i = about(0, 3);
        switch (random.nextInt(10)) {
            case 0:
                ofCall();
                break;
            case 1:
                same("object(" + o + ", " + i + ")", x.object(o, i), y.object(o, i));
                break;
            case 2:
                same("owner(" + o + ", " + i + ")", x.owner(o, i), y.owner(o, i));
                break;
            case 3:
                same("field(" + o + ", " + i + ")", x.field(o, i), y.field(o, i));
                break;
            case 4:
                same("isInside(" + o + ", " + other + ")", x.isInside(o, other), y.isInside(o, other));
                break;
            case 5:
                same("way(" + o + ", " + other + ")", x.way(o, other), y.way(o, other));
                break;
            case 6:
                same("above(" + o + ")", x.above(o), y.above(o));
                break;
            case 7:
                int leak = same("leak(" + i + ")", x.leak(i), y.leak(i));
                int past = leak < 0 ? o : leak;
                same("past(" + past + ", " + i + ")", x.past(past, i), y.past(past, i));
                break;
            case 8:
                int what = about(0, 9);
                same("state(" + what + ")", x.state(what), y.state(what));
                break;
            default:
                int k = about(0, y.state(9));
                same("said(" + k + ")", x.said(k), y.said(k));
                break;
        }
    }

    private void ofCall() {
        int i = about(0, y.state(7));
        int what = about(0, 3);
        int k = about(0, 7);
        same("call(" + i + ", " + what + ")", x.call(i, what), y.call(i, what));
        same("variable(" + i + ", " + k + ")", x.variable(i, k), y.variable(i, k));
    }

    /** The TEXTS are of some use only if they come to all that there is. */
    private static void comesToAll() {
        System.out.println("FAULTS " + Arrays.toString(FAULTS) + ", ended " + ended + ", TROUBLES "
            + Arrays.toString(TROUBLES) + ", with LEAKS " + leaked);
        for (int i = 0; i < FAULTS.length; i++) {
            CHECK.due("some with FAULT " + i, FAULTS[i] > 0, true);
        }
        for (int i = 0; i < TROUBLES.length; i++) {
            CHECK.due("some with TROUBLE " + i, TROUBLES[i] > 0, true);
        }
        CHECK.due("some that ended", ended > 0, true);
        CHECK.due("some with LEAKS", leaked > 0, true);
    }

    private static String anyText(TextMaker maker, TextChanger changer) {
        String text = maker.text();
        while (text.length() > LONGEST) {
            text = maker.text();
        }
        String changed = changer.isOnce(3) ? changer.changed(text) : text;
        String spaced = changer.isOnce(2) ? changer.spaced(changed) : changed;
        return spaced.substring(0, Math.min(spaced.length(), LONGEST));
    }

    public static void main(String[] args) {
        int many = args.length > 1 ? Integer.parseInt(args[1]) : 700;
        Random random = new Random(args.length > 2 ? Long.parseLong(args[2]) : 14);
        TextMaker maker = new TextMaker(random);
        TextChanger changer = new TextChanger(random);
        for (int k = 0; k < many; k++) {
            ModelTest test = new ModelTest(random);
            String text = anyText(maker, changer);
            while (test.hasLeft(text.length() / 20 + 24)) {
                test.one(text, maker.isWild());
                text = anyText(maker, changer);
            }
        }
        comesToAll();
        CHECK.end();
    }
}
