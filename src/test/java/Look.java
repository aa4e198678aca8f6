import java.util.ArrayList;
import java.util.List;

/** All that an object answers of itself, some 160 answers with their calls' names, to be held against a later look. */
final class Look {
    private final List<String> calls = new ArrayList<>();
    private final List<Integer> answers = new ArrayList<>();

    Look(OwnerHeap x) {
        ofProgram(x);
        ofRun(x);
        for (int o = 1; o <= 4; o++) {
            ofObject(x, o);
        }
        put("leaks()", x.leaks());
        put("leak(0)", x.leak(0));
        put("leak(1)", x.leak(1));
    }

    private void put(String call, int answer) {
        calls.add(call);
        answers.add(answer);
    }

    private void ofProgram(OwnerHeap x) {
        put("fault(0)", x.fault(0));
        put("fault(1)", x.fault(1));
        for (int c = 0; c < 2; c++) {
            for (int what = 0; what < 6; what++) {
                put("type(" + c + ", " + what + ")", x.type(c, what));
            }
            for (int i = 0; i < 9; i++) {
                put("isIn(" + c + ", " + (i / 3 - 2) + ", " + (i % 3 - 2) + ")", x.isIn(c, i / 3 - 2, i % 3 - 2) ? 1 : 0);
            }
        }
    }

    private void ofRun(OwnerHeap x) {
        for (int what = 0; what < 10; what++) {
            put("state(" + what + ")", x.state(what));
        }
        for (int k = 0; k < 3; k++) {
            put("said(" + k + ")", x.said(k));
        }
        for (int i = 0; i < 3; i++) {
            for (int what = 0; what < 4; what++) {
                put("call(" + i + ", " + what + ")", x.call(i, what));
            }
            for (int k = 0; k < 3; k++) {
                put("variable(" + i + ", " + k + ")", x.variable(i, k));
            }
        }
    }

    private void ofObject(OwnerHeap x, int o) {
        for (int what = 0; what < 5; what++) {
            put("object(" + o + ", " + what + ")", x.object(o, what));
        }
        for (int i = 0; i < 3; i++) {
            put("owner(" + o + ", " + i + ")", x.owner(o, i));
            put("field(" + o + ", " + i + ")", x.field(o, i));
            put("past(" + o + ", " + i + ")", x.past(o, i));
        }
        for (int b = 0; b <= 4; b++) {
            put("isInside(" + o + ", " + b + ")", x.isInside(o, b) ? 1 : 0);
        }
        for (int b = 1; b <= 4; b++) {
            put("way(" + o + ", " + b + ")", x.way(o, b));
        }
        put("above(" + o + ")", x.above(o));
    }

    /** How many answers are other ones than nothing: 0, NONE or false. */
    int tellsOfSomething() {
        int many = 0;
        for (int answer : answers) {
            many += answer == 0 || answer == OwnerHeap.NONE ? 0 : 1;
        }
        return many;
    }

    /** Each answer of now is due to be that of this look. */
    void stays(Check check, String what, OwnerHeap x) {
        staysFrom(check, 0, what, x);
    }

    /** As stays(), but for fault(). */
    void staysButFault(Check check, String what, OwnerHeap x) {
        staysFrom(check, 2, what, x);
    }

    private void staysFrom(Check check, int first, String what, OwnerHeap x) {
        Look now = new Look(x);
        for (int i = first; i < answers.size(); i++) {
            check.due(calls.get(i) + " behind " + what, now.answers.get(i), answers.get(i));
        }
    }
}
